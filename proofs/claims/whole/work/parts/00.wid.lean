/- names a law of FloatLaws at once, so that the round is read over the wide library from its first part -/
theorem wide_now : True := And.right (a := FP.Core.val64 (FP.ddiv 0 0) = FP.Core.quotient FP.Core.b64 (FP.Core.val64 0) (FP.Core.val64 0)) ⟨FP.Core.val64_ddiv 0 0, trivial⟩
