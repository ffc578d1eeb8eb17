-- the calls, one by one
theorem ri_nameLength {x : Int} {R : rW} : RinS [3] (r_nameLength R x) := by
  unfold r_nameLength
  repeat (first | exact RinS.v | exact RinS.e (by decide) | refine RinS.i ?_ ?_)
theorem o_nameLength {x : Int} : Op mL_nameLength [vR 0, vI x, vR 74] mX12_nameLength [vR 65, vI x] := op_q (r := fun R => r_nameLength R x) (ks := [3]) (fun g d Q h => wr_nameLength h) (fun g d R Q hC h => q_nameLength hC h) (fun g d Q hR h => m_nameLength hR h) (fun R => ri_nameLength)
theorem ri_nameCodePoint {x y : Int} {R : rW} : RinS [3] (r_nameCodePoint R x y) := by
  unfold r_nameCodePoint
  repeat (first | exact RinS.v | exact RinS.e (by decide) | refine RinS.i ?_ ?_)
theorem o_nameCodePoint {x y : Int} : Op mL_nameCodePoint [vR 0, vI x, vI y, vR 74] mX12_nameCodePoint [vR 65, vI x, vI y] := op_q (r := fun R => r_nameCodePoint R x y) (ks := [3]) (fun g d Q h => wr_nameCodePoint h) (fun g d R Q hC h => q_nameCodePoint hC h) (fun g d Q hR h => m_nameCodePoint hR h) (fun R => ri_nameCodePoint)
theorem ri_weekday {x : Int} : RinS [2] (r_weekday x) := by
  unfold r_weekday
  repeat (first | exact RinS.v | exact RinS.e (by decide) | refine RinS.i ?_ ?_)
theorem o_weekday {x : Int} : Op mL_weekday [vR 0, vI x, vR 74] mX12_weekday [vR 65, vI x] := op_q (r := fun R => r_weekday x) (ks := [2]) (fun g d Q h => wr_weekday h) (fun g d R Q hC h => q_weekday h) (fun g d Q hR h => m_weekday h) (fun R => ri_weekday)
theorem ri_isCourtDay {x : Int} {R : rW} : RinS [2] (r_isCourtDay R x) := by
  unfold r_isCourtDay
  repeat (first | exact RinS.v | exact RinS.e (by decide) | refine RinS.i ?_ ?_)
theorem rb_isCourtDay {x : Int} {R : rW} (hR : RW R) : RbS (r_isCourtDay R x) := by
  unfold r_isCourtDay
  repeat (first | exact RbS.b | exact RbS.e | refine RbS.i (fun _ => ?_) ?_)
theorem o_isCourtDay {x : Int} : OpB mL_isCourtDay [vR 0, vI x, vR 74] mX12_isCourtDay [vR 65, vI x] := op_qb (r := fun R => r_isCourtDay R x) (ks := [2]) (fun R w hR h => rb_isCourtDay hR w h) (fun g d Q h => wr_isCourtDay h) (fun g d R Q hC h => q_isCourtDay hC h) (fun g d Q hR h => m_isCourtDay hR h) (fun R => ri_isCourtDay)
theorem ri_courtDays {x y : Int} {R : rW} : RinS [2] (r_courtDays R x y) := by
  unfold r_courtDays
  repeat (first | exact RinS.v | exact RinS.e (by decide) | refine RinS.i ?_ ?_)
theorem o_courtDays {x y : Int} : Op mL_courtDays [vR 0, vI x, vI y, vR 74] mX12_courtDays [vR 65, vI x, vI y] := op_q (r := fun R => r_courtDays R x y) (ks := [2]) (fun g d Q h => wr_courtDays h) (fun g d R Q hC h => q_courtDays hC h) (fun g d Q hR h => m_courtDays hR h) (fun R => ri_courtDays)
theorem o_courtDaysByMarking {x y : Int} : Op mL_courtDaysByMarking [vR 0, vI x, vI y, vR 74] mX12_courtDaysByMarking [vR 65, vI x, vI y] := op_q (r := fun R => r_courtDays R x y) (ks := [2]) (fun g d Q h => wr_courtDaysByMarking h) (fun g d R Q hC h => q_courtDaysByMarking hC h) (fun g d Q hR h => m_courtDaysByMarking hR h) (fun R => ri_courtDays)
theorem ri_ruleLength {x : Int} {R : rW} : RinS [3] (r_ruleLength R x) := by
  unfold r_ruleLength
  repeat (first | exact RinS.v | exact RinS.e (by decide) | refine RinS.i ?_ ?_)
theorem o_ruleLength {x : Int} : Op mL_ruleLength [vR 0, vI x, vR 74] mX12_ruleLength [vR 65, vI x] := op_q (r := fun R => r_ruleLength R x) (ks := [3]) (fun g d Q h => wr_ruleLength h) (fun g d R Q hC h => q_ruleLength hC h) (fun g d Q hR h => m_ruleLength h) (fun R => ri_ruleLength)
theorem ri_countsCourtDays {x : Int} {R : rW} : RinS [3] (r_countsCourtDays R x) := by
  unfold r_countsCourtDays
  repeat (first | exact RinS.v | exact RinS.e (by decide) | refine RinS.i ?_ ?_)
theorem rb_countsCourtDays {x : Int} {R : rW} (hR : RW R) : RbS (r_countsCourtDays R x) := RbS.i (fun c => RbS.w (hR.r.1 x c).2) RbS.e
theorem o_countsCourtDays {x : Int} : OpB mL_countsCourtDays [vR 0, vI x, vR 74] mX12_countsCourtDays [vR 65, vI x] := op_qb (r := fun R => r_countsCourtDays R x) (ks := [3]) (fun R w hR h => rb_countsCourtDays hR w h) (fun g d Q h => wr_countsCourtDays h) (fun g d R Q hC h => q_countsCourtDays hC h) (fun g d Q hR h => m_countsCourtDays hR h) (fun R => ri_countsCourtDays)
theorem ri_serviceDays {x : Int} {R : rW} : RinS [2] (r_serviceDays R x) := by
  unfold r_serviceDays
  repeat (first | exact RinS.v | exact RinS.e (by decide) | refine RinS.i ?_ ?_)
theorem o_serviceDays {x : Int} : Op mL_serviceDays [vR 0, vI x, vR 74] mX12_serviceDays [vR 65, vI x] := op_q (r := fun R => r_serviceDays R x) (ks := [2]) (fun g d Q h => wr_serviceDays h) (fun g d R Q hC h => q_serviceDays hC h) (fun g d Q hR h => m_serviceDays h) (fun R => ri_serviceDays)
theorem ri_lastDayBefore {x y : Int} {R : rW} : RinS [3, 2, 4] (r_lastDayBefore R x y) := by
  unfold r_lastDayBefore
  repeat (first | exact RinS.v | exact RinS.e (by decide) | refine RinS.i ?_ ?_)
theorem o_lastDayBefore {x y : Int} : Op mL_lastDayBefore [vR 0, vI x, vI y, vR 74] mX12_lastDayBefore [vR 65, vI x, vI y] := op_q (r := fun R => r_lastDayBefore R x y) (ks := [3, 2, 4]) (fun g d Q h => wr_lastDayBefore h) (fun g d R Q hC h => q_lastDayBefore hC h) (fun g d Q hR h => m_lastDayBefore hR h) (fun R => ri_lastDayBefore)
theorem o_lastDayBeforeByMarking {x y : Int} : Op mL_lastDayBeforeByMarking [vR 0, vI x, vI y, vR 74] mX12_lastDayBeforeByMarking [vR 65, vI x, vI y] := op_q (r := fun R => r_lastDayBefore R x y) (ks := [3, 2, 4]) (fun g d Q h => wr_lastDayBeforeByMarking h) (fun g d R Q hC h => q_lastDayBeforeByMarking hC h) (fun g d Q hR h => m_lastDayBeforeByMarking hR h) (fun R => ri_lastDayBefore)
theorem ri_due {x : Int} {R : rW} : RinS [3, 4] (r_due R x) := by
  unfold r_due
  repeat (first | exact RinS.v | exact RinS.e (by decide) | refine RinS.i ?_ ?_)
theorem o_due {x : Int} : Op mL_due [vR 0, vI x, vR 74] mX12_due [vR 65, vI x] := op_q (r := fun R => r_due R x) (ks := [3, 4]) (fun g d Q h => wr_due h) (fun g d R Q hC h => q_due hC h) (fun g d Q hR h => m_due hR h) (fun R => ri_due)
theorem o_dueByMarking {x : Int} : Op mL_dueByMarking [vR 0, vI x, vR 74] mX12_dueByMarking [vR 65, vI x] := op_q (r := fun R => r_due R x) (ks := [3, 4]) (fun g d Q h => wr_dueByMarking h) (fun g d R Q hC h => q_dueByMarking hC h) (fun g d Q hR h => m_dueByMarking hR h) (fun R => ri_due)
theorem ri_left {x : Int} {R : rW} : RinS [3] (r_left R x) := by
  unfold r_left
  repeat (first | exact RinS.v | exact RinS.e (by decide) | refine RinS.i ?_ ?_)
theorem o_daysLeft {x : Int} : Op mL_daysLeft [vR 0, vI x, vR 74] mX12_daysLeft [vR 65, vI x] := op_q (r := fun R => r_left R x) (ks := [3]) (fun g d Q h => wr_daysLeft h) (fun g d R Q hC h => q_daysLeft hC h) (fun g d Q hR h => m_daysLeft hR h) (fun R => ri_left)
theorem o_daysLeftByMarking {x : Int} : Op mL_daysLeftByMarking [vR 0, vI x, vR 74] mX12_daysLeftByMarking [vR 65, vI x] := op_q (r := fun R => r_left R x) (ks := [3]) (fun g d Q h => wr_daysLeftByMarking h) (fun g d R Q hC h => q_daysLeftByMarking hC h) (fun g d Q hR h => m_daysLeftByMarking hR h) (fun R => ri_left)
theorem ri_extensionDays {x : Int} {R : rW} : RinS [3] (r_extensionDays R x) := by
  unfold r_extensionDays
  repeat (first | exact RinS.v | exact RinS.e (by decide) | refine RinS.i ?_ ?_)
theorem o_extensionDays {x : Int} : Op mL_extensionDays [vR 0, vI x, vR 74] mX12_extensionDays [vR 65, vI x] := op_q (r := fun R => r_extensionDays R x) (ks := [3]) (fun g d Q h => wr_extensionDays h) (fun g d R Q hC h => q_extensionDays hC h) (fun g d Q hR h => m_extensionDays hR h) (fun R => ri_extensionDays)
theorem ri_status {x : Int} {R : rW} : RinS [3] (r_status R x) := by
  unfold r_status
  repeat (first | exact RinS.v | exact RinS.e (by decide) | refine RinS.i ?_ ?_)
theorem o_status {x : Int} : Op mL_status [vR 0, vI x, vR 74] mX12_status [vR 65, vI x] := op_q (r := fun R => r_status R x) (ks := [3]) (fun g d Q h => wr_status h) (fun g d R Q hC h => q_status hC h) (fun g d Q hR h => m_status hR h) (fun R => ri_status)
theorem ri_isStopped {x y : Int} {R : rW} : RinS [3, 2] (r_isStopped R x y) := by
  unfold r_isStopped
  repeat (first | exact RinS.v | exact RinS.e (by decide) | refine RinS.i ?_ ?_)
theorem rb_isStopped {x y : Int} {R : rW} (hR : RW R) : RbS (r_isStopped R x y) := by
  unfold r_isStopped
  repeat (first | exact RbS.b | exact RbS.e | refine RbS.i (fun _ => ?_) ?_)
theorem o_isStopped {x y : Int} : OpB mL_isStopped [vR 0, vI x, vI y, vR 74] mX12_isStopped [vR 65, vI x, vI y] := op_qb (r := fun R => r_isStopped R x y) (ks := [3, 2]) (fun R w hR h => rb_isStopped hR w h) (fun g d Q h => wr_isStopped h) (fun g d R Q hC h => q_isStopped hC h) (fun g d Q hR h => m_isStopped hR h) (fun R => ri_isStopped)
theorem ri_stopped {x y z : Int} {R : rW} : RinS [3, 2] (r_stopped R x y z) := by
  unfold r_stopped
  repeat (first | exact RinS.v | exact RinS.e (by decide) | refine RinS.i ?_ ?_)
theorem o_stoppedDays {x y z : Int} : Op mL_stoppedDays [vR 0, vI x, vI y, vI z, vR 74] mX12_stoppedDays [vR 65, vI x, vI y, vI z] := op_q (r := fun R => r_stopped R x y z) (ks := [3, 2]) (fun g d Q h => wr_stoppedDays h) (fun g d R Q hC h => q_stoppedDays hC h) (fun g d Q hR h => m_stoppedDays hR h) (fun R => ri_stopped)
theorem o_stoppedDaysByMarking {x y z : Int} : Op mL_stoppedDaysByMarking [vR 0, vI x, vI y, vI z, vR 74] mX12_stoppedDaysByMarking [vR 65, vI x, vI y, vI z] := op_q (r := fun R => r_stopped R x y z) (ks := [3, 2]) (fun g d Q h => wr_stoppedDaysByMarking h) (fun g d R Q hC h => q_stoppedDaysByMarking hC h) (fun g d Q hR h => m_stoppedDaysByMarking hR h) (fun R => ri_stopped)
theorem ri_same {x y : Int} {R : rW} : RinS [3] (r_same R x y) := by
  unfold r_same
  repeat (first | exact RinS.v | exact RinS.e (by decide) | refine RinS.i ?_ ?_)
theorem rb_same {x y : Int} {R : rW} (hR : RW R) : RbS (r_same R x y) := by
  unfold r_same
  repeat (first | exact RbS.b | exact RbS.e | refine RbS.i (fun _ => ?_) ?_)
theorem o_sameConduct {x y : Int} : OpB mL_sameConduct [vR 0, vI x, vI y, vR 74] mX12_sameConduct [vR 65, vI x, vI y] := op_qb (r := fun R => r_same R x y) (ks := [3]) (fun R w hR h => rb_same hR w h) (fun g d Q h => wr_sameConduct h) (fun g d R Q hC h => q_sameConduct hC h) (fun g d Q hR h => m_sameConduct hR h) (fun R => ri_same)
theorem o_sameConductBySearch {x y : Int} : OpB mL_sameConductBySearch [vR 0, vI x, vI y, vR 74] mX12_sameConductBySearch [vR 65, vI x, vI y] := op_qb (r := fun R => r_same R x y) (ks := [3]) (fun R w hR h => rb_same hR w h) (fun g d Q h => wr_sameConductBySearch h) (fun g d R Q hC h => q_sameConductBySearch hC h) (fun g d Q hR h => m_sameConductBySearch hR h) (fun R => ri_same)
theorem ri_barDay {x : Int} {R : rW} : RinS [3, 4] (r_barDay R x) := by
  unfold r_barDay
  repeat (first | exact RinS.v | exact RinS.e (by decide) | refine RinS.i ?_ ?_)
theorem o_barDay {x : Int} : Op mL_barDay [vR 0, vI x, vR 74] mX12_barDay [vR 65, vI x] := op_q (r := fun R => r_barDay R x) (ks := [3, 4]) (fun g d Q h => wr_barDay h) (fun g d R Q hC h => q_barDay hC h) (fun g d Q hR h => m_barDay hR h) (fun R => ri_barDay)
theorem ri_effectiveDay {x : Int} {R : rW} : RinS [3] (r_effectiveDay R x) := by
  unfold r_effectiveDay
  repeat (first | exact RinS.v | exact RinS.e (by decide) | refine RinS.i ?_ ?_)
theorem o_effectiveDay {x : Int} : Op mL_effectiveDay [vR 0, vI x, vR 74] mX12_effectiveDay [vR 65, vI x] := op_q (r := fun R => r_effectiveDay R x) (ks := [3]) (fun g d Q h => wr_effectiveDay h) (fun g d R Q hC h => q_effectiveDay hC h) (fun g d Q hR h => m_effectiveDay hR h) (fun R => ri_effectiveDay)
theorem ri_isTimely {x : Int} {R : rW} : RinS [3] (r_isTimely R x) := by
  unfold r_isTimely
  repeat (first | exact RinS.v | exact RinS.e (by decide) | refine RinS.i ?_ ?_)
theorem rb_isTimely {x : Int} {R : rW} (hR : RW R) : RbS (r_isTimely R x) := by
  unfold r_isTimely
  repeat (first | exact RbS.b | exact RbS.e | refine RbS.i (fun _ => ?_) ?_)
theorem o_isTimely {x : Int} : OpB mL_isTimely [vR 0, vI x, vR 74] mX12_isTimely [vR 65, vI x] := op_qb (r := fun R => r_isTimely R x) (ks := [3]) (fun R w hR h => rb_isTimely hR w h) (fun g d Q h => wr_isTimely h) (fun g d R Q hC h => q_isTimely hC h) (fun g d Q hR h => m_isTimely hR h) (fun R => ri_isTimely)
theorem ri_timelyClaims {x : Int} {R : rW} : RinS [3] (r_timelyClaims R x) := by
  unfold r_timelyClaims
  repeat (first | exact RinS.v | exact RinS.e (by decide) | refine RinS.i ?_ ?_)
theorem o_timelyClaims {x : Int} : Op mL_timelyClaims [vR 0, vI x, vR 74] mX12_timelyClaims [vR 65, vI x] := op_q (r := fun R => r_timelyClaims R x) (ks := [3]) (fun g d Q h => wr_timelyClaims h) (fun g d R Q hC h => q_timelyClaims hC h) (fun g d Q hR h => m_timelyClaims hR h) (fun R => ri_timelyClaims)
theorem ri_oaN {x : Int} {R : rW} : ∀ (m : Nat) (i : Int), RinS [4] (oaN R x m i) := by
  intro m
  induction m with
  | zero => intro i; exact RinS.e (by decide)
  | succ m ih =>
    intro i
    exact RinS.i RinS.v (ih _)
theorem ri_openAt {x : Int} {R : rW} : RinS [4] (r_openAt R x) := ri_oaN _ _
theorem o_openAt {x : Int} : Op mL_openAt [vR 0, vI x, vR 74] mX12_openAt [vR 65, vI x] := op_q (r := fun R => r_openAt R x) (ks := [4]) (fun g d Q h => wr_openAt h) (fun g d R Q hC h => q_openAt hC h) (fun g d Q hR h => m_openAt hR h) (fun R => ri_openAt)
theorem ri_bsN {R : rW} : ∀ (m : Nat) (i b n : Int), RinS [4] (bsN R m i b n) := by
  intro m
  induction m with
  | zero =>
    intro i b n
    exact RinS.i (RinS.e (by decide)) RinS.v
  | succ m ih =>
    intro i b n
    exact RinS.i (ih _ _ _) (ih _ _ _)
theorem ri_busiestDay {R : rW} : RinS [4] (r_busiestDay R) := ri_bsN _ _ _ _
theorem o_busiestDay : Op mL_busiestDay [vR 0, vR 74] mX12_busiestDay [vR 65] := op_q (r := fun R => r_busiestDay R) (ks := [4]) (fun g d Q h => wr_busiestDay h) (fun g d R Q hC h => q_busiestDay hC h) (fun g d Q hR h => m_busiestDay hR h) (fun R => ri_busiestDay)
theorem ri_mlN {R : rW} : ∀ (m : Nat) (i b n : Int), RinS [6] (mlN R m i b n) := by
  intro m
  induction m with
  | zero =>
    intro i b n
    exact RinS.i (RinS.e (by decide)) RinS.v
  | succ m ih =>
    intro i b n
    exact RinS.i (ih _ _ _) (ih _ _ _)
theorem ri_meanDaysLeft {R : rW} : RinS [6] (r_meanDaysLeft R) := ri_mlN _ _ _ _
theorem o_meanDaysLeft : OpD mL_meanDaysLeft [vR 0, vR 75] mX12_meanDaysLeft [vR 65] := op_qd (r := fun R => r_meanDaysLeft R) (ks := [6]) (fun g d Q h => wr_meanDaysLeft h) (fun g d R Q hC h => q_meanDaysLeft hC h) (fun g d Q hR h => m_meanDaysLeft hR h) (fun R => ri_meanDaysLeft)
theorem o_parties : Op0 mX11_parties [vR 0] mX12_parties [vR 65] := op_00 (r := fun R => R 1) (fun g d R Q hC h => q_parties hC h) (fun g d Q hR h => m_parties h)
theorem o_today : Op0 mX11_today [vR 0] mX12_today [vR 65] := op_00 (r := fun R => R 0) (fun g d R Q hC h => q_today hC h) (fun g d Q hR h => m_today h)
theorem o_deadlines : Op0 mX11_deadlines [vR 0] mX12_deadlines [vR 65] := op_00 (r := fun R => R 3) (fun g d R Q hC h => q_deadlines hC h) (fun g d Q hR h => m_deadlines h)
theorem o_overdue : Op0 mX11_overdue [vR 0] mX12_overdue [vR 65] := op_00 (r := fun R => cnN (ovd R) (R 3).toNat 0) (fun g d R Q hC h => q_overdue hC h) (fun g d Q hR h => m_overdue hR h)
theorem o_staysInForce : Op0 mX11_staysInForce [vR 0] mX12_staysInForce [vR 65] := op_00 (r := fun R => cn (fun k => R (622 + 4 * k) = -1) 0 (R 4 - 1)) (fun g d R Q hC h => q_staysInForce hC h) (fun g d Q hR h => m_staysInForce hR h)
theorem o_isConsistent : Op0 mX11_isConsistent [vR 0] mX12_isConsistent [vR 65] := op_00 (r := fun R => 1) (fun g d R Q hC h => q_isConsistent hC h) (fun g d Q hR h => m_isConsistent h)
