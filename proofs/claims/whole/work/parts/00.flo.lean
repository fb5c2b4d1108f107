/-! floats: a datum that fits, encoded and decoded -/
theorem fl_v64 {s : Bool} {c : Nat} {q : Int} (h : FP.Core.fits FP.Core.b64 (.fin s c q)) : FP.Core.val64 (FP.Core.of64 (.fin s c q)) = .fin s c q := FP.Core.val64_of64 h
theorem fl_v32 {s : Bool} {c : Nat} {q : Int} (h : FP.Core.fits FP.Core.b32 (.fin s c q)) : FP.Core.val32 (FP.Core.of32 (.fin s c q)) = .fin s c q := FP.Core.val32_of32 h
