/- names FP.Core at once, so that the round is read over the wide library from its first part -/
theorem wide_now : FP.Core.b64 = FP.Core.b64 := rfl
