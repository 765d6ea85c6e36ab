/-! ===== rests as numbers ===== -/
def rN (g : Nat → Nat → Nat) (n k i : Nat) : Nat := (RTI g n k i).toNat
theorem rN_c {g : Nat → Nat → Nat} {n k i : Nat} (hg : ∀ i j, i < n → j < k → g i j < n) (hn : n ≤ 6) (hi : i < n) : ((rN g n k i : Nat) : Int) = RTI g n k i := Int.toNat_of_nonneg (RTI_nn hg hn hi)
theorem RV_rN {g : Nat → Nat → Nat} {n k i : Nat} (hg : ∀ i j, i < n → j < k → g i j < n) (hn : n ≤ 6) (hi : i < n) : RV g n k i = lN (rN g n k i) := by
  rw [RV_RTI hn hi, ofIn, rN_c hg hn hi]
theorem sI_nat {v : Nat → Nat} : ∀ n, sI (fun i => (v i : Int)) n = ((sm v n : Nat) : Int) := by
  intro n
  induction n with
  | zero => rfl
  | succ n ih =>
    show sI (fun i => (v i : Int)) n + (v n : Int) = ((sm v n + v n : Nat) : Int)
    rw [ih, Int.natCast_add]
theorem WR_rN {g : Nat → Nat → Nat} {n k : Nat} (hg : ∀ i j, i < n → j < k → g i j < n) (hn : n ≤ 6) : WR g n k = lN (sm (rN g n k) n) := sumL_lN (fun i hi => RV_rN hg hn hi)
theorem rN_le {g : Nat → Nat → Nat} {n k i : Nat} (hg : ∀ i j, i < n → j < k → g i j < n) (hn : n ≤ 6) (hk1 : 1 ≤ k) (hk : k ≤ 12) (hi : i < n) : rN g n k i ≤ 248832 := by
  have h1 := rN_c hg hn hi
  have h2 := RTI_le hg hn hk hk1 hi
  omega
theorem rN_sum {g : Nat → Nat → Nat} {n k : Nat} (hg : ∀ i j, i < n → j < k → g i j < n) (hn : n ≤ 6) (hk1 : 1 ≤ k) (hk : k ≤ 12) : sm (rN g n k) n ≤ 1492992 := by
  refine Nat.le_trans (sm_mono (f' := fun _ => 248832) (fun i hi => rN_le hg hn hk1 hk hi)) ?_
  rw [sm_const]
  omega
theorem rN_bal {g : Nat → Nat → Nat} {n k c : Nat} (hg : ∀ i j, i < n → j < k → g i j < n) (hn : n ≤ 6) (hc : c < n) : sm (fun j => rN g n k j * cnt (g j) c k) n = k * rN g n k c := by
  have h := RTI_bal hg hn hc
  rw [sI_congr (f' := fun j => ((rN g n k j * cnt (g j) c k : Nat) : Int)) (fun j hj => by rw [Int.natCast_mul, rN_c hg hn hj]), sI_nat, ← rN_c hg hn hc, ← Int.natCast_mul] at h
  exact Int.ofNat_inj.mp h
theorem rN_cl {g : Nat → Nat → Nat} {n k : Nat} (hg : ∀ i j, i < n → j < k → g i j < n) (hn1 : 1 ≤ n) (hn : n ≤ 6) (hk : 1 ≤ k) : sm (rN g n k) n = 0 ↔ 1 < nB (lowB g n k) n := by
  rw [← RTI_cl hg hn1 hn hk, ← sI_congr (fun i hi => rN_c hg hn hi), sI_nat]
  exact Int.ofNat_eq_zero.symm
/-! closed classes, as the law has them -/
theorem rc_eq {g : Nat → Nat → Nat} {n k i j : Nat} (hg : ∀ i j, i < n → j < k → g i j < n) (hn : n ≤ 6) (hi : i < n) (hj : j < n) (h1 : Rc g k i j) (h2 : Rc g k j i) : rcA g n k j (n - 1) = rcA g n k i (n - 1) := by
  apply Nat.eq_of_testBit_eq
  intro q
  rw [Bool.eq_iff_iff, rc_iff hg hn hj, rc_iff hg hn hi]
  exact ⟨fun h => Rc_trans h1 h, fun h => Rc_trans h2 h⟩
theorem cl_low {g : Nat → Nat → Nat} {n k i : Nat} (hg : ∀ i j, i < n → j < k → g i j < n) (hn : n ≤ 6) (hi : i < n) : ((∀ j, j < n → (rcA g n k i (n - 1)).testBit j = true → rcA g n k j (n - 1) = rcA g n k i (n - 1)) ∧ ∀ j, j < n → (rcA g n k i (n - 1)).testBit j = true → i ≤ j) ↔ lowB g n k i = true := by
  rw [low_iff hg hn hi]
  constructor
  · rintro ⟨h1, h2⟩ q hq hr
    have hb := (rc_iff hg hn hi).mpr hr
    refine ⟨h2 q hq hb, (rc_iff hg hn hq).mp ?_⟩
    rw [h1 q hq hb]
    exact (rc_iff hg hn hi).mpr Rc_refl
  · intro h
    exact ⟨fun j hj hb => rc_eq hg hn hi hj ((rc_iff hg hn hi).mp hb) (h j hj ((rc_iff hg hn hi).mp hb)).2, fun j hj hb => (h j hj ((rc_iff hg hn hi).mp hb)).1⟩
/-! ranks -/
theorem ah_tot {F : Nat → Int64} {i j : Nat} (h : i ≠ j) : aheadB F i j = true ∨ aheadB F j i = true := by
  rw [ahB_iff, ahB_iff]
  by_cases y1 : F i < F j
  · exact Or.inl (Or.inl y1)
  · by_cases y2 : F j < F i
    · exact Or.inr (Or.inl y2)
    · have q : F i = F j := Int64.le_antisymm (Int64.not_lt.mp y2) (Int64.not_lt.mp y1)
      rcases Nat.lt_or_gt_of_ne h with z | z
      · exact Or.inr (Or.inr ⟨q, z⟩)
      · exact Or.inl (Or.inr ⟨q.symm, z⟩)
theorem plc_ahead {F : Nat → Int64} {i j n : Nat} (hi : i < n) (h : plc F j n < plc F i n) : aheadB F i j = true := by
  have hne : i ≠ j := fun e => by subst e; omega
  rcases ah_tot (F := F) hne with q | q
  · exact q
  · have := plc_lt hi q
    omega
theorem ah_self {F : Nat → Int64} {i : Nat} : aheadB F i i = false := by
  cases h : aheadB F i i with
  | false => rfl
  | true =>
    rcases ahB_iff.mp h with q | ⟨_, q⟩
    · exact absurd q (Int64.lt_irrefl)
    · omega
theorem nB_ltn {f : Nat → Bool} {i : Nat} : ∀ {n : Nat}, i < n → f i = false → nB f n < n := by
  intro n
  induction n with
  | zero => intro h; omega
  | succ n ih =>
    intro h hf
    show nB f n + (if f n = true then 1 else 0) < n + 1
    by_cases z : i = n
    · rw [← z, if_neg (by rw [hf]; exact Bool.false_ne_true)]
      have := nB_le f n
      rw [z]; omega
    · have := ih (by omega) hf
      split <;> omega
theorem plc_ltn {F : Nat → Int64} {i n : Nat} (hi : i < n) : plc F i n < n := nB_ltn hi ah_self
theorem cnt_le1 {f : Nat → Nat} {j : Nat} : ∀ k, (∀ a b, a < k → b < k → f a = f b → a = b) → cnt f j k ≤ 1 := by
  intro k
  induction k with
  | zero => intro _; exact Nat.zero_le _
  | succ k ih =>
    intro h
    rw [cnt_s]
    have h1 := ih (fun a b ha hb => h a b (by omega) (by omega))
    by_cases z : f k = j
    · rw [if_pos z]
      have : cnt f j k = 0 := Nat.eq_zero_of_not_pos (fun hp => by
        obtain ⟨s, hs, e⟩ := (cnt_pos k).mp hp
        have := h s k (by omega) (by omega) (e.trans z.symm)
        omega)
      omega
    · rw [if_neg z]; omega
theorem sm_lt {f : Nat → Nat} {i : Nat} : ∀ {n : Nat}, (∀ j, j < n → f j ≤ 1) → i < n → f i = 0 → sm f n < n := by
  intro n
  induction n with
  | zero => intro _ h; omega
  | succ n ih =>
    intro h hi hf
    show sm f n + f n < n + 1
    by_cases z : i = n
    · rw [← z, hf]
      have := sm_mono (f := f) (f' := fun _ => 1) (n := i) (fun j hj => h j (by omega))
      rw [sm_const] at this
      omega
    · have h1 := ih (fun j hj => h j (by omega)) (by omega) hf
      have h2 := h n (by omega)
      omega
/-- each rank has its state -/
theorem rk_ex {F : Nat → Int64} {n r : Nat} (hr : r < n) : ∃ i, i < n ∧ plc F i n = r := by
  refine Classical.byContradiction (fun hno => ?_)
  have h0 : cnt (fun i => plc F i n) r n = 0 := Nat.eq_zero_of_not_pos (fun hp => by
    obtain ⟨s, hs, e⟩ := (cnt_pos n).mp hp
    exact hno ⟨s, hs, e⟩)
  have h1 := sm_cnt (f := fun i => plc F i n) (n := n) (k := n) (fun s hs => plc_ltn hs)
  have h2 := sm_lt (f := fun b => cnt (fun i => plc F i n) b n) (fun j _ => cnt_le1 n (fun a b ha hb e => plc_inj ha hb e)) hr h0
  omega
theorem rk_val {F : Nat → Int64} {n i : Nat} (hi : i < n) : mxs (fun j => decide (plc F j n = plc F i n)) n 0 = nI i :=
  mxs_1 (decide_eq_true rfl) n 0 (Nat.zero_le _) (by omega) (fun q hq h => plc_inj (by omega) hi (of_decide_eq_true h))
theorem rk_none {F : Nat → Int64} {n : Nat} : mxs (fun j => decide (plc F j n = n)) n 0 = -1 :=
  mxs_0 n 0 (fun q hq h => by
    have h1 := of_decide_eq_true h
    have h2 := plc_ltn (F := F) (i := q) (n := n) (by omega)
    omega)
/-- the states by their ranks -/
theorem rk_all (F : Nat → Int64) (n : Nat) : ∃ π : Nat → Nat, (∀ r, r < n → π r < n ∧ plc F (π r) n = r ∧ mxs (fun j => decide (plc F j n = r)) n 0 = nI (π r)) ∧ ∀ i, i < n → π (plc F i n) = i := by
  have H : ∀ r, ∃ i, r < n → i < n ∧ plc F i n = r := fun r => by
    by_cases z : r < n
    · obtain ⟨i, h1, h2⟩ := rk_ex (F := F) z
      exact ⟨i, fun _ => ⟨h1, h2⟩⟩
    · exact ⟨0, fun h => absurd h z⟩
  obtain ⟨π, hπ⟩ := Classical.skolem.mp H
  refine ⟨π, fun r hr => ?_, fun i hi => ?_⟩
  · obtain ⟨h1, h2⟩ := hπ r hr
    refine ⟨h1, h2, ?_⟩
    have := rk_val (F := F) h1
    rw [h2] at this
    exact this
  · obtain ⟨h1, h2⟩ := hπ _ (plc_ltn (F := F) hi)
    exact plc_inj h1 hi h2
/-- states by ranks: rests fall, of several the lowest goes first -/
theorem rk_ord {F : Nat → Int64} {n i j : Nat} (hi : i < n) (h : plc F j n < plc F i n) : F i < F j ∨ F j = F i ∧ j < i := ahB_iff.mp (plc_ahead hi h)
/-! shares -/
theorem p2_eq {c d a w : Nat} {q r : Int} (h1 : c * 2 ^ q.toNat = a * 2 ^ (-q).toNat) (h2 : d * 2 ^ r.toNat = w * 2 ^ (-r).toNat) : c * w * 2 ^ (q - r - 0).toNat = a * d * 2 ^ (0 - (q - r)).toNat := by
  obtain ⟨m, e1, e2⟩ : ∃ m, q.toNat + (-r).toNat = (q - r - 0).toNat + m ∧ (-q).toNat + r.toNat = (0 - (q - r)).toNat + m := by
    refine ⟨min (q.toNat + (-r).toNat) ((-q).toNat + r.toNat), ?_, ?_⟩ <;> omega
  have h3 : (c * 2 ^ q.toNat) * (w * 2 ^ (-r).toNat) = (a * 2 ^ (-q).toNat) * (d * 2 ^ r.toNat) := by rw [h1, ← h2]
  apply Nat.eq_of_mul_eq_mul_right (Nat.two_pow_pos m)
  have l1 : c * w * 2 ^ (q - r - 0).toNat * 2 ^ m = (c * 2 ^ q.toNat) * (w * 2 ^ (-r).toNat) := by
    rw [Nat.mul_assoc (c * w), ← Nat.pow_add, ← e1, Nat.pow_add]; ac_rfl
  have l2 : a * d * 2 ^ (0 - (q - r)).toNat * 2 ^ m = (a * 2 ^ (-q).toNat) * (d * 2 ^ r.toNat) := by
    rw [Nat.mul_assoc (a * d), ← Nat.pow_add, ← e2, Nat.pow_add]; ac_rfl
  rw [l1, l2, h3]
theorem l2f_n {a : Nat} (ha : a < 2 ^ 24) : ∃ c q, FP.Core.val32 (FP.Core.l2f (lN a)) = .fin false c q ∧ c * 2 ^ q.toNat = a * 2 ^ (-q).toNat := by
  have ht : (lN a).toInt = (a : Int) := lN_toInt (by omega)
  obtain ⟨c, q, h⟩ := FP.Core.l2f_shape (lN a)
  have hw := FP.Core.l2f_whole (a := lN a) ⟨by rw [ht]; omega, by rw [ht]; omega⟩
  rw [ht, decide_eq_false (by omega)] at h
  rw [h, ht] at hw
  refine ⟨c, q, h, ?_⟩
  have := FP.Core.whole_natAbs hw
  rw [Int.natAbs_natCast] at this
  exact this
theorem sh_val {a w : Nat} (hw : 0 < w) (ha : a < 2 ^ 24) (hw2 : w < 2 ^ 24) : FP.Core.val32 (FP.fdiv (FP.l2f (lN a)) (FP.l2f (lN w))) = FP.Core.roundRatio FP.Core.b32 false a w 0 := by
  show FP.Core.val32 (FP.Core.fdiv (FP.Core.l2f (lN a)) (FP.Core.l2f (lN w))) = _
  obtain ⟨c, q, e1, h1⟩ := l2f_n ha
  obtain ⟨d, r, e2, h2⟩ := l2f_n hw2
  rw [FP.Core.val32_fdiv, e1, e2]
  have hd : 0 < d := Nat.pos_of_ne_zero (fun z => by
    subst z
    rw [Nat.zero_mul] at h2
    have := Nat.mul_pos hw (Nat.two_pow_pos (-r).toNat)
    omega)
  show (if d = 0 then (if c = 0 then FP.Core.Datum.nan else .inf (false != false)) else FP.Core.roundRatio FP.Core.b32 (false != false) c d (q - r)) = _
  rw [if_neg (by omega)]
  exact FP.Core.roundRatio_congr hd hw (p2_eq h1 h2)
theorem zv_rr {a w : Nat} : FP.Core.zval FP.Core.b32 (FP.Core.roundRatio FP.Core.b32 false a w 0) = (FP.Core.zmag FP.Core.b32 (FP.Core.roundRatio FP.Core.b32 false a w 0) : Int) := by
  unfold FP.Core.zval
  rw [FP.Core.sgn_roundRatio]
  rfl
theorem qm32 : FP.Core.b32.qmin = -149 := by decide
theorem sh_0 {a w : Nat} (hw : 0 < w) (ha : a < 2 ^ 24) (hw2 : w < 2 ^ 24) : FP.fcmp (FP.fdiv (FP.l2f (lN a)) (FP.l2f (lN w))) FP.fconst0 = some (if 0 < a then .gt else .eq) := by
  show FP.Core.fcmp _ _ = _
  have e := sh_val hw ha hw2
  have e0 : FP.Core.zval FP.Core.b32 (FP.Core.val32 FP.fconst0) = 0 := by decide +kernel
  rw [FP.Core.fcmp_zval (by rw [e]; exact FP.Core.roundRatio_ne_nan _ _ _ _ _) (by decide +kernel), e, e0, zv_rr, FP.Core.compare_ite]
  by_cases z : 0 < a
  · rw [if_pos z]
    have hV : FP.Core.fits FP.Core.b32 (.fin false 8388608 (-47)) := by unfold FP.Core.fits; decide
    have hz : FP.Core.zmag FP.Core.b32 (.fin false 8388608 (-47)) = 8388608 * 2 ^ 102 := by decide +kernel
    have hge := FP.Core.zmag_roundRatio_ge FP.Core.good_b32 (s := false) (A := a) (B := w) (e := 0) (e0 := -149) hw hV (by rw [qm32]; exact Int.le_refl _) (by omega) (by
      rw [hz, qm32]
      show 8388608 * 2 ^ 102 * 2 ^ 0 * w ≤ a * 2 ^ 149
      have h1 : a * 2 ^ 149 = (a * 16777216) * 2 ^ 125 := by rw [Nat.mul_assoc]
      have h2 : 8388608 * 2 ^ 102 * 2 ^ 0 * w = w * 2 ^ 125 := by rw [Nat.mul_comm w]
      rw [h1, h2]
      exact Nat.mul_le_mul_right _ (by omega))
    rw [hz] at hge
    have hp : 0 < 8388608 * 2 ^ 102 := by decide
    generalize FP.Core.zmag FP.Core.b32 (FP.Core.roundRatio FP.Core.b32 false a w 0) = m at hge ⊢
    rw [if_neg (by omega), if_neg (by omega)]
  · have ez : a = 0 := by omega
    subst ez
    rfl
theorem sh_1 {a w : Nat} (hw : 0 < w) (ha : a < 2 ^ 24) (hw2 : w < 2 ^ 24) (h : a ≤ w) : FP.fcmp (FP.fdiv (FP.l2f (lN a)) (FP.l2f (lN w))) FP.fconst1 = some .lt ∨ FP.fcmp (FP.fdiv (FP.l2f (lN a)) (FP.l2f (lN w))) FP.fconst1 = some .eq := by
  show FP.Core.fcmp _ _ = _ ∨ FP.Core.fcmp _ _ = _
  have e := sh_val hw ha hw2
  have e1 : FP.Core.val32 FP.fconst1 = .fin false 8388608 (-23) := by decide +kernel
  have hV : FP.Core.fits FP.Core.b32 (.fin false 8388608 (-23)) := by unfold FP.Core.fits; decide
  have hz : FP.Core.zmag FP.Core.b32 (.fin false 8388608 (-23)) = 2 ^ 149 := by decide +kernel
  have hle := FP.Core.zmag_roundRatio_le FP.Core.good_b32 (s := false) (A := a) (B := w) (e := 0) (e0 := -149) hw hV (fun h => nomatch h) (by rw [qm32]; exact Int.le_refl _) (by omega) (by
    rw [hz, qm32]
    show a * 2 ^ 149 ≤ 2 ^ 149 * 2 ^ 0 * w
    rw [Nat.pow_zero, Nat.mul_one, Nat.mul_comm (2 ^ 149)]
    exact Nat.mul_le_mul_right _ h)
  have e3 : FP.Core.zval FP.Core.b32 (.fin false 8388608 (-23)) = (FP.Core.zmag FP.Core.b32 (.fin false 8388608 (-23)) : Int) := rfl
  rw [FP.Core.fcmp_zval (by rw [e]; exact FP.Core.roundRatio_ne_nan _ _ _ _ _) (by decide +kernel), e, e1, e3, zv_rr, FP.Core.compare_ite]
  generalize FP.Core.zmag FP.Core.b32 (FP.Core.roundRatio FP.Core.b32 false a w 0) = m at hle ⊢
  generalize FP.Core.zmag FP.Core.b32 (.fin false 8388608 (-23)) = v at hle ⊢
  by_cases y : (m : Int) < v
  · rw [if_pos y]; exact Or.inl rfl
  · rw [if_neg y, if_pos (by omega)]; exact Or.inr rfl
