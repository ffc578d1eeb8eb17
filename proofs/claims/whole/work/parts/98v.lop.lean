-- the law's switch and its loop
theorem law_sw {x i : Int} {bc bs : Nat} {g : mG} {d : mD} {Q : mQ} (hx : 0 ≤ x) (hI : INV g d) (hi : 0 ≤ i ∧ i + 3 < d SCR (-1)) (hN : d SCR (-1) ≤ 2048) (hb : 48 ≤ bc ∧ 8234 ≤ bs) (h : ∀ g' d', INV g' d' → d' SCR = d SCR → MW mL_law (bc - 48) (bs - 8234) 3808 [(0, (5, 0)), (1, vR 0), (2, vR 65), (3, vR 74), (4, vR 75), (5, vI i)] [] g' d' Q) : MW mL_law bc bs 44 [(0, (5, 0)), (1, vR 0), (2, vR 65), (3, vR 74), (4, vR 75), (5, vI i)] [vI x] g d Q := by
  have s0 : x = 0 → MW mL_law bc bs 44 [(0, (5, 0)), (1, vR 0), (2, vR 65), (3, vR 74), (4, vR 75), (5, vI i)] [vI x] g d Q := fun e => by
    subst e
    exact mw_tabIn (pc' := 0) (off := 264) (tgt := 308) dL_law_44 (by decide) (by decide +kernel) (by decide) (lc_0 hI hi hN hb h)
  have s1 : x = 1 → MW mL_law bc bs 44 [(0, (5, 0)), (1, vR 0), (2, vR 65), (3, vR 74), (4, vR 75), (5, vI i)] [vI x] g d Q := fun e => by
    subst e
    exact mw_tabIn (pc' := 0) (off := 322) (tgt := 366) dL_law_44 (by decide) (by decide +kernel) (by decide) (lc_1 hI hi hN hb h)
  have s2 : x = 2 → MW mL_law bc bs 44 [(0, (5, 0)), (1, vR 0), (2, vR 65), (3, vR 74), (4, vR 75), (5, vI i)] [vI x] g d Q := fun e => by
    subst e
    exact mw_tabIn (pc' := 0) (off := 366) (tgt := 410) dL_law_44 (by decide) (by decide +kernel) (by decide) (lc_2 hI hi hN hb h)
  have s3 : x = 3 → MW mL_law bc bs 44 [(0, (5, 0)), (1, vR 0), (2, vR 65), (3, vR 74), (4, vR 75), (5, vI i)] [vI x] g d Q := fun e => by
    subst e
    exact mw_tabIn (pc' := 0) (off := 410) (tgt := 454) dL_law_44 (by decide) (by decide +kernel) (by decide) (lc_3 hI hi hN hb h)
  have s4 : x = 4 → MW mL_law bc bs 44 [(0, (5, 0)), (1, vR 0), (2, vR 65), (3, vR 74), (4, vR 75), (5, vI i)] [vI x] g d Q := fun e => by
    subst e
    exact mw_tabIn (pc' := 0) (off := 423) (tgt := 467) dL_law_44 (by decide) (by decide +kernel) (by decide) (lc_4 hI hi hN hb h)
  have s5 : x = 5 → MW mL_law bc bs 44 [(0, (5, 0)), (1, vR 0), (2, vR 65), (3, vR 74), (4, vR 75), (5, vI i)] [vI x] g d Q := fun e => by
    subst e
    exact mw_tabIn (pc' := 0) (off := 479) (tgt := 523) dL_law_44 (by decide) (by decide +kernel) (by decide) (lc_5 hI hi hN hb h)
  have s6 : x = 6 → MW mL_law bc bs 44 [(0, (5, 0)), (1, vR 0), (2, vR 65), (3, vR 74), (4, vR 75), (5, vI i)] [vI x] g d Q := fun e => by
    subst e
    exact mw_tabIn (pc' := 0) (off := 547) (tgt := 591) dL_law_44 (by decide) (by decide +kernel) (by decide) (lc_6 hI hi hN hb h)
  have s7 : x = 7 → MW mL_law bc bs 44 [(0, (5, 0)), (1, vR 0), (2, vR 65), (3, vR 74), (4, vR 75), (5, vI i)] [vI x] g d Q := fun e => by
    subst e
    exact mw_tabIn (pc' := 0) (off := 603) (tgt := 647) dL_law_44 (by decide) (by decide +kernel) (by decide) (lc_7 hI hi hN hb h)
  have s8 : x = 8 → MW mL_law bc bs 44 [(0, (5, 0)), (1, vR 0), (2, vR 65), (3, vR 74), (4, vR 75), (5, vI i)] [vI x] g d Q := fun e => by
    subst e
    exact mw_tabIn (pc' := 0) (off := 616) (tgt := 660) dL_law_44 (by decide) (by decide +kernel) (by decide) (lc_8 hI hi hN hb h)
  have s9 : x = 9 → MW mL_law bc bs 44 [(0, (5, 0)), (1, vR 0), (2, vR 65), (3, vR 74), (4, vR 75), (5, vI i)] [vI x] g d Q := fun e => by
    subst e
    exact mw_tabIn (pc' := 0) (off := 672) (tgt := 716) dL_law_44 (by decide) (by decide +kernel) (by decide) (lc_9 hI hi hN hb h)
  have s10 : x = 10 → MW mL_law bc bs 44 [(0, (5, 0)), (1, vR 0), (2, vR 65), (3, vR 74), (4, vR 75), (5, vI i)] [vI x] g d Q := fun e => by
    subst e
    exact mw_tabIn (pc' := 0) (off := 728) (tgt := 772) dL_law_44 (by decide) (by decide +kernel) (by decide) (lc_10 hI hi hN hb h)
  have s11 : x = 11 → MW mL_law bc bs 44 [(0, (5, 0)), (1, vR 0), (2, vR 65), (3, vR 74), (4, vR 75), (5, vI i)] [vI x] g d Q := fun e => by
    subst e
    exact mw_tabIn (pc' := 0) (off := 791) (tgt := 835) dL_law_44 (by decide) (by decide +kernel) (by decide) (lc_11 hI hi hN hb h)
  have s12 : x = 12 → MW mL_law bc bs 44 [(0, (5, 0)), (1, vR 0), (2, vR 65), (3, vR 74), (4, vR 75), (5, vI i)] [vI x] g d Q := fun e => by
    subst e
    exact mw_tabIn (pc' := 0) (off := 847) (tgt := 891) dL_law_44 (by decide) (by decide +kernel) (by decide) (lc_12 hI hi hN hb h)
  have s13 : x = 13 → MW mL_law bc bs 44 [(0, (5, 0)), (1, vR 0), (2, vR 65), (3, vR 74), (4, vR 75), (5, vI i)] [vI x] g d Q := fun e => by
    subst e
    exact mw_tabIn (pc' := 0) (off := 903) (tgt := 947) dL_law_44 (by decide) (by decide +kernel) (by decide) (lc_13 hI hi hN hb h)
  have s14 : x = 14 → MW mL_law bc bs 44 [(0, (5, 0)), (1, vR 0), (2, vR 65), (3, vR 74), (4, vR 75), (5, vI i)] [vI x] g d Q := fun e => by
    subst e
    exact mw_tabIn (pc' := 0) (off := 971) (tgt := 1015) dL_law_44 (by decide) (by decide +kernel) (by decide) (lc_14 hI hi hN hb h)
  have s15 : x = 15 → MW mL_law bc bs 44 [(0, (5, 0)), (1, vR 0), (2, vR 65), (3, vR 74), (4, vR 75), (5, vI i)] [vI x] g d Q := fun e => by
    subst e
    exact mw_tabIn (pc' := 0) (off := 1039) (tgt := 1083) dL_law_44 (by decide) (by decide +kernel) (by decide) (lc_15 hI hi hN hb h)
  have s16 : x = 16 → MW mL_law bc bs 44 [(0, (5, 0)), (1, vR 0), (2, vR 65), (3, vR 74), (4, vR 75), (5, vI i)] [vI x] g d Q := fun e => by
    subst e
    exact mw_tabIn (pc' := 0) (off := 1135) (tgt := 1179) dL_law_44 (by decide) (by decide +kernel) (by decide) (lc_16 hI hi hN hb h)
  have s17 : x = 17 → MW mL_law bc bs 44 [(0, (5, 0)), (1, vR 0), (2, vR 65), (3, vR 74), (4, vR 75), (5, vI i)] [vI x] g d Q := fun e => by
    subst e
    exact mw_tabIn (pc' := 0) (off := 1191) (tgt := 1235) dL_law_44 (by decide) (by decide +kernel) (by decide) (lc_17 hI hi hN hb h)
  have s18 : x = 18 → MW mL_law bc bs 44 [(0, (5, 0)), (1, vR 0), (2, vR 65), (3, vR 74), (4, vR 75), (5, vI i)] [vI x] g d Q := fun e => by
    subst e
    exact mw_tabIn (pc' := 0) (off := 1254) (tgt := 1298) dL_law_44 (by decide) (by decide +kernel) (by decide) (lc_18 hI hi hN hb h)
  have s19 : x = 19 → MW mL_law bc bs 44 [(0, (5, 0)), (1, vR 0), (2, vR 65), (3, vR 74), (4, vR 75), (5, vI i)] [vI x] g d Q := fun e => by
    subst e
    exact mw_tabIn (pc' := 0) (off := 1324) (tgt := 1368) dL_law_44 (by decide) (by decide +kernel) (by decide) (lc_19 hI hi hN hb h)
  have s20 : x = 20 → MW mL_law bc bs 44 [(0, (5, 0)), (1, vR 0), (2, vR 65), (3, vR 74), (4, vR 75), (5, vI i)] [vI x] g d Q := fun e => by
    subst e
    exact mw_tabIn (pc' := 0) (off := 1382) (tgt := 1426) dL_law_44 (by decide) (by decide +kernel) (by decide) (lc_20 hI hi hN hb h)
  have s21 : x = 21 → MW mL_law bc bs 44 [(0, (5, 0)), (1, vR 0), (2, vR 65), (3, vR 74), (4, vR 75), (5, vI i)] [vI x] g d Q := fun e => by
    subst e
    exact mw_tabIn (pc' := 0) (off := 1450) (tgt := 1494) dL_law_44 (by decide) (by decide +kernel) (by decide) (lc_21 hI hi hN hb h)
  have s22 : x = 22 → MW mL_law bc bs 44 [(0, (5, 0)), (1, vR 0), (2, vR 65), (3, vR 74), (4, vR 75), (5, vI i)] [vI x] g d Q := fun e => by
    subst e
    exact mw_tabIn (pc' := 0) (off := 1518) (tgt := 1562) dL_law_44 (by decide) (by decide +kernel) (by decide) (lc_22 hI hi hN hb h)
  have s23 : x = 23 → MW mL_law bc bs 44 [(0, (5, 0)), (1, vR 0), (2, vR 65), (3, vR 74), (4, vR 75), (5, vI i)] [vI x] g d Q := fun e => by
    subst e
    exact mw_tabIn (pc' := 0) (off := 1600) (tgt := 1644) dL_law_44 (by decide) (by decide +kernel) (by decide) (lc_23 hI hi hN hb h)
  have s24 : x = 24 → MW mL_law bc bs 44 [(0, (5, 0)), (1, vR 0), (2, vR 65), (3, vR 74), (4, vR 75), (5, vI i)] [vI x] g d Q := fun e => by
    subst e
    exact mw_tabIn (pc' := 0) (off := 1613) (tgt := 1657) dL_law_44 (by decide) (by decide +kernel) (by decide) (lc_24 hI hi hN hb h)
  have s25 : x = 25 → MW mL_law bc bs 44 [(0, (5, 0)), (1, vR 0), (2, vR 65), (3, vR 74), (4, vR 75), (5, vI i)] [vI x] g d Q := fun e => by
    subst e
    exact mw_tabIn (pc' := 0) (off := 1669) (tgt := 1713) dL_law_44 (by decide) (by decide +kernel) (by decide) (lc_25 hI hi hN hb h)
  have s26 : x = 26 → MW mL_law bc bs 44 [(0, (5, 0)), (1, vR 0), (2, vR 65), (3, vR 74), (4, vR 75), (5, vI i)] [vI x] g d Q := fun e => by
    subst e
    exact mw_tabIn (pc' := 0) (off := 1725) (tgt := 1769) dL_law_44 (by decide) (by decide +kernel) (by decide) (lc_26 hI hi hN hb h)
  have s27 : x = 27 → MW mL_law bc bs 44 [(0, (5, 0)), (1, vR 0), (2, vR 65), (3, vR 74), (4, vR 75), (5, vI i)] [vI x] g d Q := fun e => by
    subst e
    exact mw_tabIn (pc' := 0) (off := 1781) (tgt := 1825) dL_law_44 (by decide) (by decide +kernel) (by decide) (lc_27 hI hi hN hb h)
  have s28 : x = 28 → MW mL_law bc bs 44 [(0, (5, 0)), (1, vR 0), (2, vR 65), (3, vR 74), (4, vR 75), (5, vI i)] [vI x] g d Q := fun e => by
    subst e
    exact mw_tabIn (pc' := 0) (off := 1837) (tgt := 1881) dL_law_44 (by decide) (by decide +kernel) (by decide) (lc_28 hI hi hN hb h)
  have s29 : x = 29 → MW mL_law bc bs 44 [(0, (5, 0)), (1, vR 0), (2, vR 65), (3, vR 74), (4, vR 75), (5, vI i)] [vI x] g d Q := fun e => by
    subst e
    exact mw_tabIn (pc' := 0) (off := 1905) (tgt := 1949) dL_law_44 (by decide) (by decide +kernel) (by decide) (lc_29 hI hi hN hb h)
  have s30 : x = 30 → MW mL_law bc bs 44 [(0, (5, 0)), (1, vR 0), (2, vR 65), (3, vR 74), (4, vR 75), (5, vI i)] [vI x] g d Q := fun e => by
    subst e
    exact mw_tabIn (pc' := 0) (off := 1973) (tgt := 2017) dL_law_44 (by decide) (by decide +kernel) (by decide) (lc_30 hI hi hN hb h)
  have s31 : x = 31 → MW mL_law bc bs 44 [(0, (5, 0)), (1, vR 0), (2, vR 65), (3, vR 74), (4, vR 75), (5, vI i)] [vI x] g d Q := fun e => by
    subst e
    exact mw_tabIn (pc' := 0) (off := 2029) (tgt := 2073) dL_law_44 (by decide) (by decide +kernel) (by decide) (lc_31 hI hi hN hb h)
  have s32 : x = 32 → MW mL_law bc bs 44 [(0, (5, 0)), (1, vR 0), (2, vR 65), (3, vR 74), (4, vR 75), (5, vI i)] [vI x] g d Q := fun e => by
    subst e
    exact mw_tabIn (pc' := 0) (off := 2092) (tgt := 2136) dL_law_44 (by decide) (by decide +kernel) (by decide) (lc_32 hI hi hN hb h)
  have s33 : x = 33 → MW mL_law bc bs 44 [(0, (5, 0)), (1, vR 0), (2, vR 65), (3, vR 74), (4, vR 75), (5, vI i)] [vI x] g d Q := fun e => by
    subst e
    exact mw_tabIn (pc' := 0) (off := 2148) (tgt := 2192) dL_law_44 (by decide) (by decide +kernel) (by decide) (lc_33 hI hi hN hb h)
  have s34 : x = 34 → MW mL_law bc bs 44 [(0, (5, 0)), (1, vR 0), (2, vR 65), (3, vR 74), (4, vR 75), (5, vI i)] [vI x] g d Q := fun e => by
    subst e
    exact mw_tabIn (pc' := 0) (off := 2204) (tgt := 2248) dL_law_44 (by decide) (by decide +kernel) (by decide) (lc_34 hI hi hN hb h)
  have s35 : x = 35 → MW mL_law bc bs 44 [(0, (5, 0)), (1, vR 0), (2, vR 65), (3, vR 74), (4, vR 75), (5, vI i)] [vI x] g d Q := fun e => by
    subst e
    exact mw_tabIn (pc' := 0) (off := 2260) (tgt := 2304) dL_law_44 (by decide) (by decide +kernel) (by decide) (lc_35 hI hi hN hb h)
  have s36 : x = 36 → MW mL_law bc bs 44 [(0, (5, 0)), (1, vR 0), (2, vR 65), (3, vR 74), (4, vR 75), (5, vI i)] [vI x] g d Q := fun e => by
    subst e
    exact mw_tabIn (pc' := 0) (off := 2273) (tgt := 2317) dL_law_44 (by decide) (by decide +kernel) (by decide) (lc_36 hI hi hN hb h)
  have s37 : x = 37 → MW mL_law bc bs 44 [(0, (5, 0)), (1, vR 0), (2, vR 65), (3, vR 74), (4, vR 75), (5, vI i)] [vI x] g d Q := fun e => by
    subst e
    exact mw_tabIn (pc' := 0) (off := 2317) (tgt := 2361) dL_law_44 (by decide) (by decide +kernel) (by decide) (lc_37 hI hi hN hb h)
  have s38 : x = 38 → MW mL_law bc bs 44 [(0, (5, 0)), (1, vR 0), (2, vR 65), (3, vR 74), (4, vR 75), (5, vI i)] [vI x] g d Q := fun e => by
    subst e
    exact mw_tabIn (pc' := 0) (off := 2382) (tgt := 2426) dL_law_44 (by decide) (by decide +kernel) (by decide) (lc_38 hI hi hN hb h)
  have s39 : x = 39 → MW mL_law bc bs 44 [(0, (5, 0)), (1, vR 0), (2, vR 65), (3, vR 74), (4, vR 75), (5, vI i)] [vI x] g d Q := fun e => by
    subst e
    exact mw_tabIn (pc' := 0) (off := 2450) (tgt := 2494) dL_law_44 (by decide) (by decide +kernel) (by decide) (lc_39 hI hi hN hb h)
  have s40 : x = 40 → MW mL_law bc bs 44 [(0, (5, 0)), (1, vR 0), (2, vR 65), (3, vR 74), (4, vR 75), (5, vI i)] [vI x] g d Q := fun e => by
    subst e
    exact mw_tabIn (pc' := 0) (off := 2506) (tgt := 2550) dL_law_44 (by decide) (by decide +kernel) (by decide) (lc_40 hI hi hN hb h)
  have s41 : x = 41 → MW mL_law bc bs 44 [(0, (5, 0)), (1, vR 0), (2, vR 65), (3, vR 74), (4, vR 75), (5, vI i)] [vI x] g d Q := fun e => by
    subst e
    exact mw_tabIn (pc' := 0) (off := 2562) (tgt := 2606) dL_law_44 (by decide) (by decide +kernel) (by decide) (lc_41 hI hi hN hb h)
  have s42 : x = 42 → MW mL_law bc bs 44 [(0, (5, 0)), (1, vR 0), (2, vR 65), (3, vR 74), (4, vR 75), (5, vI i)] [vI x] g d Q := fun e => by
    subst e
    exact mw_tabIn (pc' := 0) (off := 2575) (tgt := 2619) dL_law_44 (by decide) (by decide +kernel) (by decide) (lc_42 hI hi hN hb h)
  have s43 : x = 43 → MW mL_law bc bs 44 [(0, (5, 0)), (1, vR 0), (2, vR 65), (3, vR 74), (4, vR 75), (5, vI i)] [vI x] g d Q := fun e => by
    subst e
    exact mw_tabIn (pc' := 0) (off := 2650) (tgt := 2694) dL_law_44 (by decide) (by decide +kernel) (by decide) (lc_43 hI hi hN hb h)
  have s44 : x = 44 → MW mL_law bc bs 44 [(0, (5, 0)), (1, vR 0), (2, vR 65), (3, vR 74), (4, vR 75), (5, vI i)] [vI x] g d Q := fun e => by
    subst e
    exact mw_tabIn (pc' := 0) (off := 2730) (tgt := 2774) dL_law_44 (by decide) (by decide +kernel) (by decide) (lc_44 hI hi hN hb h)
  have s45 : x = 45 → MW mL_law bc bs 44 [(0, (5, 0)), (1, vR 0), (2, vR 65), (3, vR 74), (4, vR 75), (5, vI i)] [vI x] g d Q := fun e => by
    subst e
    exact mw_tabIn (pc' := 0) (off := 2810) (tgt := 2854) dL_law_44 (by decide) (by decide +kernel) (by decide) (lc_45 hI hi hN hb h)
  have s46 : x = 46 → MW mL_law bc bs 44 [(0, (5, 0)), (1, vR 0), (2, vR 65), (3, vR 74), (4, vR 75), (5, vI i)] [vI x] g d Q := fun e => by
    subst e
    exact mw_tabIn (pc' := 0) (off := 2878) (tgt := 2922) dL_law_44 (by decide) (by decide +kernel) (by decide) (lc_46 hI hi hN hb h)
  have s47 : x = 47 → MW mL_law bc bs 44 [(0, (5, 0)), (1, vR 0), (2, vR 65), (3, vR 74), (4, vR 75), (5, vI i)] [vI x] g d Q := fun e => by
    subst e
    exact mw_tabIn (pc' := 0) (off := 2946) (tgt := 2990) dL_law_44 (by decide) (by decide +kernel) (by decide) (lc_47 hI hi hN hb h)
  have s48 : x = 48 → MW mL_law bc bs 44 [(0, (5, 0)), (1, vR 0), (2, vR 65), (3, vR 74), (4, vR 75), (5, vI i)] [vI x] g d Q := fun e => by
    subst e
    exact mw_tabIn (pc' := 0) (off := 3021) (tgt := 3065) dL_law_44 (by decide) (by decide +kernel) (by decide) (lc_48 hI hi hN hb h)
  have s49 : x = 49 → MW mL_law bc bs 44 [(0, (5, 0)), (1, vR 0), (2, vR 65), (3, vR 74), (4, vR 75), (5, vI i)] [vI x] g d Q := fun e => by
    subst e
    exact mw_tabIn (pc' := 0) (off := 3096) (tgt := 3140) dL_law_44 (by decide) (by decide +kernel) (by decide) (lc_49 hI hi hN hb h)
  have s50 : x = 50 → MW mL_law bc bs 44 [(0, (5, 0)), (1, vR 0), (2, vR 65), (3, vR 74), (4, vR 75), (5, vI i)] [vI x] g d Q := fun e => by
    subst e
    exact mw_tabIn (pc' := 0) (off := 3152) (tgt := 3196) dL_law_44 (by decide) (by decide +kernel) (by decide) (lc_50 hI hi hN hb h)
  have s51 : x = 51 → MW mL_law bc bs 44 [(0, (5, 0)), (1, vR 0), (2, vR 65), (3, vR 74), (4, vR 75), (5, vI i)] [vI x] g d Q := fun e => by
    subst e
    exact mw_tabIn (pc' := 0) (off := 3220) (tgt := 3264) dL_law_44 (by decide) (by decide +kernel) (by decide) (lc_51 hI hi hN hb h)
  have s52 : x = 52 → MW mL_law bc bs 44 [(0, (5, 0)), (1, vR 0), (2, vR 65), (3, vR 74), (4, vR 75), (5, vI i)] [vI x] g d Q := fun e => by
    subst e
    exact mw_tabIn (pc' := 0) (off := 3288) (tgt := 3332) dL_law_44 (by decide) (by decide +kernel) (by decide) (lc_52 hI hi hN hb h)
  have s53 : x = 53 → MW mL_law bc bs 44 [(0, (5, 0)), (1, vR 0), (2, vR 65), (3, vR 74), (4, vR 75), (5, vI i)] [vI x] g d Q := fun e => by
    subst e
    exact mw_tabIn (pc' := 0) (off := 3344) (tgt := 3388) dL_law_44 (by decide) (by decide +kernel) (by decide) (lc_53 hI hi hN hb h)
  have s54 : x = 54 → MW mL_law bc bs 44 [(0, (5, 0)), (1, vR 0), (2, vR 65), (3, vR 74), (4, vR 75), (5, vI i)] [vI x] g d Q := fun e => by
    subst e
    exact mw_tabIn (pc' := 0) (off := 3407) (tgt := 3451) dL_law_44 (by decide) (by decide +kernel) (by decide) (lc_54 hI hi hN hb h)
  have s55 : x = 55 → MW mL_law bc bs 44 [(0, (5, 0)), (1, vR 0), (2, vR 65), (3, vR 74), (4, vR 75), (5, vI i)] [vI x] g d Q := fun e => by
    subst e
    exact mw_tabIn (pc' := 0) (off := 3463) (tgt := 3507) dL_law_44 (by decide) (by decide +kernel) (by decide) (lc_55 hI hi hN hb h)
  have s56 : x = 56 → MW mL_law bc bs 44 [(0, (5, 0)), (1, vR 0), (2, vR 65), (3, vR 74), (4, vR 75), (5, vI i)] [vI x] g d Q := fun e => by
    subst e
    exact mw_tabIn (pc' := 0) (off := 3519) (tgt := 3563) dL_law_44 (by decide) (by decide +kernel) (by decide) (lc_56 hI hi hN hb h)
  have s57 : x = 57 → MW mL_law bc bs 44 [(0, (5, 0)), (1, vR 0), (2, vR 65), (3, vR 74), (4, vR 75), (5, vI i)] [vI x] g d Q := fun e => by
    subst e
    exact mw_tabIn (pc' := 0) (off := 3575) (tgt := 3619) dL_law_44 (by decide) (by decide +kernel) (by decide) (lc_57 hI hi hN hb h)
  have s58 : x = 58 → MW mL_law bc bs 44 [(0, (5, 0)), (1, vR 0), (2, vR 65), (3, vR 74), (4, vR 75), (5, vI i)] [vI x] g d Q := fun e => by
    subst e
    exact mw_tabIn (pc' := 0) (off := 3588) (tgt := 3632) dL_law_44 (by decide) (by decide +kernel) (by decide) (lc_58 hI hi hN hb h)
  have s59 : x = 59 → MW mL_law bc bs 44 [(0, (5, 0)), (1, vR 0), (2, vR 65), (3, vR 74), (4, vR 75), (5, vI i)] [vI x] g d Q := fun e => by
    subst e
    exact mw_tabIn (pc' := 0) (off := 3632) (tgt := 3676) dL_law_44 (by decide) (by decide +kernel) (by decide) (lc_59 hI hi hN hb h)
  have s60 : x = 60 → MW mL_law bc bs 44 [(0, (5, 0)), (1, vR 0), (2, vR 65), (3, vR 74), (4, vR 75), (5, vI i)] [vI x] g d Q := fun e => by
    subst e
    exact mw_tabIn (pc' := 0) (off := 3676) (tgt := 3720) dL_law_44 (by decide) (by decide +kernel) (by decide) (lc_60 hI hi hN hb h)
  have s61 : x = 61 → MW mL_law bc bs 44 [(0, (5, 0)), (1, vR 0), (2, vR 65), (3, vR 74), (4, vR 75), (5, vI i)] [vI x] g d Q := fun e => by
    subst e
    exact mw_tabIn (pc' := 0) (off := 3720) (tgt := 3764) dL_law_44 (by decide) (by decide +kernel) (by decide) (lc_61 hI hi hN hb h)
  have z : 62 ≤ x → MW mL_law bc bs 44 [(0, (5, 0)), (1, vR 0), (2, vR 65), (3, vR 74), (4, vR 75), (5, vI i)] [vI x] g d Q := fun c => mw_tabOut (pc' := 0) (tgt := 3808) dL_law_44 (Or.inr (by omega)) (by decide) (mw_less ⟨by omega, by omega⟩ (h g d hI rfl))
  rcases Int.lt_or_eq_of_le hx with hx | c
  rotate_left
  · exact s0 c.symm
  replace hx : (1 : Int) ≤ x := hx
  rcases Int.lt_or_eq_of_le hx with hx | c
  rotate_left
  · exact s1 c.symm
  replace hx : (2 : Int) ≤ x := hx
  rcases Int.lt_or_eq_of_le hx with hx | c
  rotate_left
  · exact s2 c.symm
  replace hx : (3 : Int) ≤ x := hx
  rcases Int.lt_or_eq_of_le hx with hx | c
  rotate_left
  · exact s3 c.symm
  replace hx : (4 : Int) ≤ x := hx
  rcases Int.lt_or_eq_of_le hx with hx | c
  rotate_left
  · exact s4 c.symm
  replace hx : (5 : Int) ≤ x := hx
  rcases Int.lt_or_eq_of_le hx with hx | c
  rotate_left
  · exact s5 c.symm
  replace hx : (6 : Int) ≤ x := hx
  rcases Int.lt_or_eq_of_le hx with hx | c
  rotate_left
  · exact s6 c.symm
  replace hx : (7 : Int) ≤ x := hx
  rcases Int.lt_or_eq_of_le hx with hx | c
  rotate_left
  · exact s7 c.symm
  replace hx : (8 : Int) ≤ x := hx
  rcases Int.lt_or_eq_of_le hx with hx | c
  rotate_left
  · exact s8 c.symm
  replace hx : (9 : Int) ≤ x := hx
  rcases Int.lt_or_eq_of_le hx with hx | c
  rotate_left
  · exact s9 c.symm
  replace hx : (10 : Int) ≤ x := hx
  rcases Int.lt_or_eq_of_le hx with hx | c
  rotate_left
  · exact s10 c.symm
  replace hx : (11 : Int) ≤ x := hx
  rcases Int.lt_or_eq_of_le hx with hx | c
  rotate_left
  · exact s11 c.symm
  replace hx : (12 : Int) ≤ x := hx
  rcases Int.lt_or_eq_of_le hx with hx | c
  rotate_left
  · exact s12 c.symm
  replace hx : (13 : Int) ≤ x := hx
  rcases Int.lt_or_eq_of_le hx with hx | c
  rotate_left
  · exact s13 c.symm
  replace hx : (14 : Int) ≤ x := hx
  rcases Int.lt_or_eq_of_le hx with hx | c
  rotate_left
  · exact s14 c.symm
  replace hx : (15 : Int) ≤ x := hx
  rcases Int.lt_or_eq_of_le hx with hx | c
  rotate_left
  · exact s15 c.symm
  replace hx : (16 : Int) ≤ x := hx
  rcases Int.lt_or_eq_of_le hx with hx | c
  rotate_left
  · exact s16 c.symm
  replace hx : (17 : Int) ≤ x := hx
  rcases Int.lt_or_eq_of_le hx with hx | c
  rotate_left
  · exact s17 c.symm
  replace hx : (18 : Int) ≤ x := hx
  rcases Int.lt_or_eq_of_le hx with hx | c
  rotate_left
  · exact s18 c.symm
  replace hx : (19 : Int) ≤ x := hx
  rcases Int.lt_or_eq_of_le hx with hx | c
  rotate_left
  · exact s19 c.symm
  replace hx : (20 : Int) ≤ x := hx
  rcases Int.lt_or_eq_of_le hx with hx | c
  rotate_left
  · exact s20 c.symm
  replace hx : (21 : Int) ≤ x := hx
  rcases Int.lt_or_eq_of_le hx with hx | c
  rotate_left
  · exact s21 c.symm
  replace hx : (22 : Int) ≤ x := hx
  rcases Int.lt_or_eq_of_le hx with hx | c
  rotate_left
  · exact s22 c.symm
  replace hx : (23 : Int) ≤ x := hx
  rcases Int.lt_or_eq_of_le hx with hx | c
  rotate_left
  · exact s23 c.symm
  replace hx : (24 : Int) ≤ x := hx
  rcases Int.lt_or_eq_of_le hx with hx | c
  rotate_left
  · exact s24 c.symm
  replace hx : (25 : Int) ≤ x := hx
  rcases Int.lt_or_eq_of_le hx with hx | c
  rotate_left
  · exact s25 c.symm
  replace hx : (26 : Int) ≤ x := hx
  rcases Int.lt_or_eq_of_le hx with hx | c
  rotate_left
  · exact s26 c.symm
  replace hx : (27 : Int) ≤ x := hx
  rcases Int.lt_or_eq_of_le hx with hx | c
  rotate_left
  · exact s27 c.symm
  replace hx : (28 : Int) ≤ x := hx
  rcases Int.lt_or_eq_of_le hx with hx | c
  rotate_left
  · exact s28 c.symm
  replace hx : (29 : Int) ≤ x := hx
  rcases Int.lt_or_eq_of_le hx with hx | c
  rotate_left
  · exact s29 c.symm
  replace hx : (30 : Int) ≤ x := hx
  rcases Int.lt_or_eq_of_le hx with hx | c
  rotate_left
  · exact s30 c.symm
  replace hx : (31 : Int) ≤ x := hx
  rcases Int.lt_or_eq_of_le hx with hx | c
  rotate_left
  · exact s31 c.symm
  replace hx : (32 : Int) ≤ x := hx
  rcases Int.lt_or_eq_of_le hx with hx | c
  rotate_left
  · exact s32 c.symm
  replace hx : (33 : Int) ≤ x := hx
  rcases Int.lt_or_eq_of_le hx with hx | c
  rotate_left
  · exact s33 c.symm
  replace hx : (34 : Int) ≤ x := hx
  rcases Int.lt_or_eq_of_le hx with hx | c
  rotate_left
  · exact s34 c.symm
  replace hx : (35 : Int) ≤ x := hx
  rcases Int.lt_or_eq_of_le hx with hx | c
  rotate_left
  · exact s35 c.symm
  replace hx : (36 : Int) ≤ x := hx
  rcases Int.lt_or_eq_of_le hx with hx | c
  rotate_left
  · exact s36 c.symm
  replace hx : (37 : Int) ≤ x := hx
  rcases Int.lt_or_eq_of_le hx with hx | c
  rotate_left
  · exact s37 c.symm
  replace hx : (38 : Int) ≤ x := hx
  rcases Int.lt_or_eq_of_le hx with hx | c
  rotate_left
  · exact s38 c.symm
  replace hx : (39 : Int) ≤ x := hx
  rcases Int.lt_or_eq_of_le hx with hx | c
  rotate_left
  · exact s39 c.symm
  replace hx : (40 : Int) ≤ x := hx
  rcases Int.lt_or_eq_of_le hx with hx | c
  rotate_left
  · exact s40 c.symm
  replace hx : (41 : Int) ≤ x := hx
  rcases Int.lt_or_eq_of_le hx with hx | c
  rotate_left
  · exact s41 c.symm
  replace hx : (42 : Int) ≤ x := hx
  rcases Int.lt_or_eq_of_le hx with hx | c
  rotate_left
  · exact s42 c.symm
  replace hx : (43 : Int) ≤ x := hx
  rcases Int.lt_or_eq_of_le hx with hx | c
  rotate_left
  · exact s43 c.symm
  replace hx : (44 : Int) ≤ x := hx
  rcases Int.lt_or_eq_of_le hx with hx | c
  rotate_left
  · exact s44 c.symm
  replace hx : (45 : Int) ≤ x := hx
  rcases Int.lt_or_eq_of_le hx with hx | c
  rotate_left
  · exact s45 c.symm
  replace hx : (46 : Int) ≤ x := hx
  rcases Int.lt_or_eq_of_le hx with hx | c
  rotate_left
  · exact s46 c.symm
  replace hx : (47 : Int) ≤ x := hx
  rcases Int.lt_or_eq_of_le hx with hx | c
  rotate_left
  · exact s47 c.symm
  replace hx : (48 : Int) ≤ x := hx
  rcases Int.lt_or_eq_of_le hx with hx | c
  rotate_left
  · exact s48 c.symm
  replace hx : (49 : Int) ≤ x := hx
  rcases Int.lt_or_eq_of_le hx with hx | c
  rotate_left
  · exact s49 c.symm
  replace hx : (50 : Int) ≤ x := hx
  rcases Int.lt_or_eq_of_le hx with hx | c
  rotate_left
  · exact s50 c.symm
  replace hx : (51 : Int) ≤ x := hx
  rcases Int.lt_or_eq_of_le hx with hx | c
  rotate_left
  · exact s51 c.symm
  replace hx : (52 : Int) ≤ x := hx
  rcases Int.lt_or_eq_of_le hx with hx | c
  rotate_left
  · exact s52 c.symm
  replace hx : (53 : Int) ≤ x := hx
  rcases Int.lt_or_eq_of_le hx with hx | c
  rotate_left
  · exact s53 c.symm
  replace hx : (54 : Int) ≤ x := hx
  rcases Int.lt_or_eq_of_le hx with hx | c
  rotate_left
  · exact s54 c.symm
  replace hx : (55 : Int) ≤ x := hx
  rcases Int.lt_or_eq_of_le hx with hx | c
  rotate_left
  · exact s55 c.symm
  replace hx : (56 : Int) ≤ x := hx
  rcases Int.lt_or_eq_of_le hx with hx | c
  rotate_left
  · exact s56 c.symm
  replace hx : (57 : Int) ≤ x := hx
  rcases Int.lt_or_eq_of_le hx with hx | c
  rotate_left
  · exact s57 c.symm
  replace hx : (58 : Int) ≤ x := hx
  rcases Int.lt_or_eq_of_le hx with hx | c
  rotate_left
  · exact s58 c.symm
  replace hx : (59 : Int) ≤ x := hx
  rcases Int.lt_or_eq_of_le hx with hx | c
  rotate_left
  · exact s59 c.symm
  replace hx : (60 : Int) ≤ x := hx
  rcases Int.lt_or_eq_of_le hx with hx | c
  rotate_left
  · exact s60 c.symm
  replace hx : (61 : Int) ≤ x := hx
  rcases Int.lt_or_eq_of_le hx with hx | c
  rotate_left
  · exact s61 c.symm
  replace hx : (62 : Int) ≤ x := hx
  exact z hx
theorem law_loop {Q : mQ} (hQ : ∀ g d, Q (.inl 1) g d) : ∀ (m : Nat) (i : Int) (bc bs : Nat) (g : mG) (d : mD), INV g d → 0 ≤ i → 0 ≤ d SCR (-1) → d SCR (-1) ≤ 2048 → d SCR (-1) < i + 4 * (m : Int) + 4 → i ≤ 2052 → 48 * m ≤ bc → 8234 * m ≤ bs → MW mL_law bc bs 28 [(0, (5, 0)), (1, vR 0), (2, vR 65), (3, vR 74), (4, vR 75), (5, vI i)] [] g d Q := by
  intro m
  induction m with
  | zero =>
    intro i bc bs g d hI hi h0 hN hm hi2 hbc hbs
    refine mw_iload (pc' := 30) dL_law_28 rfl rfl ?_
    refine mw_aload_n (v := (5, 0)) (pc' := 31) dL_law_30 rfl rfl (by simp) rfl ?_
    refine mw_xlen (pc' := 32) dL_law_31 rfl h0 ?_
    refine mw_iconst (pc' := 33) dL_law_32 rfl ⟨by decide, by decide⟩ ?_
    refine mw_isub (pc' := 34) dL_law_33 rfl (ik (by omega)) ?_
    refine mw_icmp_gt (tgt := 3814) (pc' := 37) dL_law_34 rfl (by decide) (fun c => ?_) (fun c => absurd (show d SCR (-1) - 4 < i by omega) c)
    refine mw_iconst (pc' := 3815) dL_law_3814 rfl ⟨by decide, by decide⟩ ?_
    exact mw_iret (pc' := 0) (S := []) dL_law_3815 rfl (Or.inr (Or.inl ⟨rfl, by decide, by decide⟩)) (hQ g d)
  | succ m ih =>
    intro i bc bs g d hI hi h0 hN hm hi2 hbc hbs
    refine mw_iload (pc' := 30) dL_law_28 rfl rfl ?_
    refine mw_aload_n (v := (5, 0)) (pc' := 31) dL_law_30 rfl rfl (by simp) rfl ?_
    refine mw_xlen (pc' := 32) dL_law_31 rfl h0 ?_
    refine mw_iconst (pc' := 33) dL_law_32 rfl ⟨by decide, by decide⟩ ?_
    refine mw_isub (pc' := 34) dL_law_33 rfl (ik (by omega)) ?_
    refine mw_icmp_gt (tgt := 3814) (pc' := 37) dL_law_34 rfl (by decide) (fun c => ?_) (fun c => ?_)
    · refine mw_iconst (pc' := 3815) dL_law_3814 rfl ⟨by decide, by decide⟩ ?_
      exact mw_iret (pc' := 0) (S := []) dL_law_3815 rfl (Or.inr (Or.inl ⟨rfl, by decide, by decide⟩)) (hQ g d)
    · have c2 : i + 3 < d SCR (-1) := by omega
      refine mw_aload_n (v := (5, 0)) (pc' := 38) dL_law_37 rfl rfl (by simp) rfl ?_
      refine mw_iload (pc' := 40) dL_law_38 rfl rfl ?_
      refine mw_xld (pc' := 41) dL_law_40 rfl ⟨by omega, by omega⟩ ?_
      refine mw_bipush (pc' := 43) dL_law_41 rfl ⟨by decide, by decide⟩ ?_
      refine mw_imask (n := 64) (n1 := 64) (k := 6) (pc' := 44) dL_law_43 rfl (by decide) (by decide) (by decide) (by decide) ?_
      refine law_sw (Int.emod_nonneg _ (by decide)) hI ⟨hi, c2⟩ hN ⟨by omega, by omega⟩ (fun g2 d2 hI2 hs2 => ?_)
      refine mw_iinc (pc' := 3811) (L' := [(0, (5, 0)), (1, vR 0), (2, vR 65), (3, vR 74), (4, vR 75), (5, vI (i + 4))]) dL_law_3808 rfl rfl (by decide) (ik (by omega)) rfl ?_
      refine mw_goto (pc' := 0) (tgt := 28) dL_law_3811 (by decide) ?_
      refine ih (i + 4) (bc - 48) (bs - 8234) g2 d2 hI2 (by omega) ?_ ?_ ?_ (by omega) (by omega) (by omega)
      · rw [hs2]; exact h0
      · rw [hs2]; exact hN
      · rw [hs2]; push_cast at hm; omega
