/-! ===== floats: no NaN comes up ===== -/
theorem n32_of {r : UInt32} (h : FP.Core.val32 r ≠ .nan) : vf_n32 r := by
  show r &&& 0x7fffffff ≤ 0x7f800000
  rw [UInt32.le_iff_toNat_le, UInt32.toNat_and]
  show r.toNat &&& (2 ^ 31 - 1) ≤ 2139095040
  rw [Nat.and_two_pow_sub_one_eq_mod]
  have hr : r.toNat < 2 ^ 32 := r.toNat_lt
  unfold FP.Core.val32 FP.Core.decode at h
  have hE : FP.Core.fieldE FP.Core.b32 r.toNat = r.toNat / 8388608 % 256 := rfl
  have hT : FP.Core.fieldT FP.Core.b32 r.toNat = r.toNat % 8388608 := rfl
  have hx : FP.Core.b32.exps - 1 = 255 := by decide
  rw [hE, hT, hx] at h
  by_cases z : r.toNat / 8388608 % 256 = 255
  · rw [if_pos z] at h
    by_cases y : r.toNat % 8388608 = 0
    · omega
    · rw [if_neg y] at h; exact absurd rfl h
  · omega
theorem n64_of {r : UInt64} (h : FP.Core.val64 r ≠ .nan) : vf_n64 r := by
  show r &&& 0x7fffffffffffffff ≤ 0x7ff0000000000000
  rw [UInt64.le_iff_toNat_le, UInt64.toNat_and]
  show r.toNat &&& (2 ^ 63 - 1) ≤ 9218868437227405312
  rw [Nat.and_two_pow_sub_one_eq_mod]
  have hr : r.toNat < 2 ^ 64 := r.toNat_lt
  unfold FP.Core.val64 FP.Core.decode at h
  have hE : FP.Core.fieldE FP.Core.b64 r.toNat = r.toNat / 4503599627370496 % 2048 := rfl
  have hT : FP.Core.fieldT FP.Core.b64 r.toNat = r.toNat % 4503599627370496 := rfl
  have hx : FP.Core.b64.exps - 1 = 2047 := by decide
  rw [hE, hT, hx] at h
  by_cases z : r.toNat / 4503599627370496 % 2048 = 2047
  · rw [if_pos z] at h
    by_cases y : r.toNat % 4503599627370496 = 0
    · omega
    · rw [if_neg y] at h; exact absurd rfl h
  · omega
theorem set_nn {f : FP.Core.Fmt} {s : Bool} {c : Nat} {q : Int} : FP.Core.settle f s c q ≠ .nan := by
  unfold FP.Core.settle FP.Core.bound
  split <;> split <;> exact fun h => nomatch h
theorem rat_nn {f : FP.Core.Fmt} {s : Bool} {A B : Nat} {e : Int} : FP.Core.roundRatio f s A B e ≠ .nan := by
  unfold FP.Core.roundRatio FP.Core.roundAt
  split
  · exact fun h => nomatch h
  · exact set_nn
theorem rnd_nn {f : FP.Core.Fmt} {d : FP.Core.Datum} (h : d ≠ .nan) : FP.Core.round f d ≠ .nan := by
  cases d with
  | nan => exact absurd rfl h
  | inf s => exact fun h => nomatch h
  | fin s c q => exact rat_nn
theorem lead_1 {A : Nat} : FP.Core.leading A 1 = (A.log2 : Int) ∨ FP.Core.leading A 1 = (A.log2 : Int) - 1 := by
  have h1 : (1 : Nat).log2 = 0 := by decide
  show (if 1 * 2 ^ ((A.log2 : Int) - ((1 : Nat).log2 : Int)).toNat ≤ A * 2 ^ (-((A.log2 : Int) - ((1 : Nat).log2 : Int))).toNat then (A.log2 : Int) - ((1 : Nat).log2 : Int) else (A.log2 : Int) - ((1 : Nat).log2 : Int) - 1) = _ ∨ (if 1 * 2 ^ ((A.log2 : Int) - ((1 : Nat).log2 : Int)).toNat ≤ A * 2 ^ (-((A.log2 : Int) - ((1 : Nat).log2 : Int))).toNat then (A.log2 : Int) - ((1 : Nat).log2 : Int) else (A.log2 : Int) - ((1 : Nat).log2 : Int) - 1) = _
  rw [h1]
  by_cases z : 1 * 2 ^ ((A.log2 : Int) - ((0 : Nat) : Int)).toNat ≤ A * 2 ^ (-((A.log2 : Int) - ((0 : Nat) : Int))).toNat
  · rw [if_pos z]; exact Or.inl (by omega)
  · rw [if_neg z]; exact Or.inr (by omega)
/-- a whole number of a long is a finite float, and no zero is one of another -/
theorem l2f_fin {a : Int} (h : a.natAbs ≤ 2 ^ 63) : ∃ s c q, FP.Core.round FP.Core.b32 (FP.Core.ofInt a) = .fin s c q ∧ (a ≠ 0 → c ≠ 0) := by
  show ∃ s c q, FP.Core.roundRatio FP.Core.b32 (decide (a < 0)) a.natAbs 1 0 = .fin s c q ∧ (a ≠ 0 → c ≠ 0)
  unfold FP.Core.roundRatio
  by_cases z : a.natAbs = 0
  · rw [if_pos z]; exact ⟨_, _, _, rfl, fun h => absurd (Int.natAbs_eq_zero.mp z) h⟩
  · rw [if_neg z]
    generalize a.natAbs = A at h z ⊢
    have hlog : A.log2 ≤ 63 := by
      have h1 := Nat.log2_lt z (k := 64)
      have : A < 2 ^ 64 := Nat.lt_of_le_of_lt h (by decide)
      have := h1.mpr this
      omega
    have hpow : 2 ^ A.log2 ≤ A := Nat.log2_self_le z
    have hqm : FP.Core.b32.qmin = -149 := by decide
    have hqM : FP.Core.b32.qmax = 104 := by decide
    have hp : ((FP.Core.b32.p : Int)) = 24 := by decide
    obtain ⟨q, hq⟩ : ∃ q, q = FP.Core.quantum FP.Core.b32 A 1 0 := ⟨_, rfl⟩
    rw [← hq]
    have hq2 : q ≤ 40 ∧ (0 < q → q ≤ (A.log2 : Int)) := by
      unfold FP.Core.quantum at hq
      rw [hqm, hp] at hq
      rcases lead_1 (A := A) with e | e <;> rw [e] at hq <;> omega
    have hc : FP.Core.nearest (FP.Core.unitsNum A 0 q) (FP.Core.unitsDen 1 0 q) ≠ 0 := by
      have hdiv : 1 ≤ FP.Core.unitsNum A 0 q / FP.Core.unitsDen 1 0 q := by
        unfold FP.Core.unitsNum FP.Core.unitsDen
        by_cases y : 0 < q
        · have e1 : (0 - q).toNat = 0 := by omega
          rw [e1, Nat.pow_zero, Nat.mul_one, Nat.one_mul, Nat.le_div_iff_mul_le (Nat.two_pow_pos _), Nat.one_mul]
          refine Nat.le_trans (Nat.pow_le_pow_right (by decide) ?_) hpow
          have := hq2.2 y
          omega
        · have e1 : (q - 0).toNat = 0 := by omega
          rw [e1, Nat.pow_zero, Nat.mul_one, Nat.div_one]
          exact Nat.mul_pos (Nat.pos_of_ne_zero z) (Nat.two_pow_pos _)
      unfold FP.Core.nearest
      split
      · omega
      · split <;> omega
    show ∃ s c q_1, FP.Core.roundAt FP.Core.b32 (decide (a < 0)) A 1 0 q = .fin s c q_1 ∧ (a ≠ 0 → c ≠ 0)
    unfold FP.Core.roundAt FP.Core.settle FP.Core.bound
    rw [hqM]
    split
    · rw [if_pos (by omega)]; exact ⟨_, _, _, rfl, fun _ => hc⟩
    · rw [if_pos (by omega)]; exact ⟨_, _, _, rfl, fun _ => by decide⟩
theorem abs63 (a : Int64) : a.toInt.natAbs ≤ 2 ^ 63 := by
  have h1 := Int64.le_toInt a
  have h2 := Int64.toInt_lt a
  omega
theorem fdiv_v {a b : Int64} (hb : b ≠ 0) : FP.Core.val32 (FP.fdiv (FP.l2f a) (FP.l2f b)) ≠ .nan := by
  show FP.Core.val32 (FP.Core.fdiv (FP.Core.l2f a) (FP.Core.l2f b)) ≠ .nan
  rw [FP.Core.val32_fdiv, FP.Core.val32_l2f, FP.Core.val32_l2f]
  obtain ⟨s1, c1, q1, e1, _⟩ := l2f_fin (abs63 a)
  obtain ⟨s2, c2, q2, e2, h2⟩ := l2f_fin (abs63 b)
  rw [e1, e2]
  have hc2 : c2 ≠ 0 := h2 (fun z => hb (Int64.toInt_inj.mp (z.trans (by decide))))
  show (if c2 = 0 then (if c1 = 0 then FP.Core.Datum.nan else .inf (s1 != s2)) else FP.Core.roundRatio FP.Core.b32 (s1 != s2) c1 c2 (q1 - q2)) ≠ .nan
  rw [if_neg hc2]
  exact rat_nn
theorem fdiv_n {a b : Int64} (hb : b ≠ 0) : vf_n32 (FP.fdiv (FP.l2f a) (FP.l2f b)) := n32_of (fdiv_v hb)
theorem f2d_v {x : UInt32} (h : FP.Core.val32 x ≠ .nan) : FP.Core.val64 (FP.f2d x) ≠ .nan := by
  unfold FP.f2d
  have : FP.Core.fIsNaN x = false := by
    show decide (FP.Core.decode FP.Core.b32 x.toNat = .nan) = false
    exact decide_eq_false h
  rw [this]
  show FP.Core.val64 (FP.Core.f2d x) ≠ .nan
  rw [FP.Core.val64_f2d]
  exact rnd_nn h
theorem f2d_n {x : UInt32} (h : FP.Core.val32 x ≠ .nan) : vf_n64 (FP.f2d x) := n64_of (f2d_v h)
theorem d_self {x : UInt64} (h : FP.Core.val64 x ≠ .nan) : FP.dcmp x x = some .eq := by
  show FP.Core.order (FP.Core.val64 x) (FP.Core.val64 x) = some .eq
  cases e : FP.Core.val64 x with
  | nan => exact absurd e h
  | inf s => cases s <;> rfl
  | fin s c q => exact congrArg some (Std.ReflCmp.compare_self)
