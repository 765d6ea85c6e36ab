/-! ===== a name of the library's float laws, so that all parts are read over the whole of it from the first round on ===== -/
theorem zw_l2f (a : Int64) : FP.Core.val32 (FP.Core.l2f a) = FP.Core.round FP.Core.b32 (FP.Core.ofInt a.toInt) := FP.Core.val32_l2f a
