/-! ===== what the law's loops count ===== -/
theorem prC_le {g : Nat → Nat → Nat} {n k i : Nat} (hg : ∀ i j, i < n → j < k → g i j < n) (hn : n ≤ 6) (hi : i < n) : prC g n k i ≤ 40 := by
  rw [period_eq hg hn hi]; exact prd_le 40
theorem rcA_64 {g : Nat → Nat → Nat} {n k i : Nat} (hn : n ≤ 6) (hi : i < n) : rcA g n k i (n - 1) < 64 := rcA_lt hn hi _
/-! mixing -/
theorem mxs_sp {P : Nat → Bool} : ∀ fu u, (∃ q, u ≤ q ∧ q < u + fu ∧ mxs P fu u = nI q ∧ P q = true ∧ ∀ r, u ≤ r → r < q → P r = false) ∨ (mxs P fu u = -1 ∧ ∀ r, u ≤ r → r < u + fu → P r = false) := by
  intro fu
  induction fu with
  | zero => intro u; exact Or.inr ⟨rfl, fun r h1 h2 => by omega⟩
  | succ fu ih =>
    intro u
    cases e : P u with
    | true =>
      refine Or.inl ⟨u, Nat.le_refl u, by omega, ?_, e, fun r h1 h2 => by omega⟩
      show (if P u = true then nI u else mxs P fu (u + 1)) = nI u
      rw [if_pos e]
    | false =>
      have es : mxs P (fu + 1) u = mxs P fu (u + 1) := by
        show (if P u = true then nI u else mxs P fu (u + 1)) = _
        rw [if_neg (by rw [e]; exact Bool.false_ne_true)]
      rw [es]
      rcases ih (u + 1) with ⟨q, h1, h2, h3, h4, h5⟩ | ⟨h1, h2⟩
      · refine Or.inl ⟨q, by omega, by omega, h3, h4, fun r hr1 hr2 => ?_⟩
        by_cases z : r = u
        · rw [z]; exact e
        · exact h5 r (by omega) hr2
      · refine Or.inr ⟨h1, fun r hr1 hr2 => ?_⟩
        by_cases z : r = u
        · rw [z]; exact e
        · exact h2 r (by omega) (by omega)
theorem mixA_if2 {g : Nat → Nat → Nat} {n k th t : Nat} : mixA g n k th t = true ↔ ∀ u w, u < w → w < n → 1000 * dst (PL g n k u t) (PL g n k w t) n ≤ th * k ^ t := by
  unfold mixA
  rw [allB_iff]
  constructor
  · intro h u w huw hw
    have h1 := allB_iff.mp (h u (by omega)) w hw
    rw [decide_eq_true huw] at h1
    exact of_decide_eq_true h1
  · intro h u hu
    rw [allB_iff]
    intro w hw
    by_cases z : u < w
    · rw [decide_eq_true z]
      exact decide_eq_true (h u w z hw)
    · rw [decide_eq_false z]; rfl
theorem mixA_up {g : Nat → Nat → Nat} {n k th t : Nat} (h : mixA g n k (th - 1) t = true) : mixA g n k th t = true := by
  rw [mixA_if2] at h ⊢
  exact fun u w h1 h2 => Nat.le_trans (h u w h1 h2) (Nat.mul_le_mul_right _ (Nat.sub_le th 1))
/-- the greatest of the distances until now -/
def MXI (F : Nat → Nat → Nat) (n a b mo : Nat) : Prop := (∀ x y, x < a → y < x → F x y ≤ mo) ∧ (∀ y, y < b → F a y ≤ mo) ∧ (mo = 0 ∨ ∃ x y, x < n ∧ y < x ∧ mo = F x y)
theorem MXI_0 {F : Nat → Nat → Nat} {n : Nat} : MXI F n 0 0 0 := ⟨fun x y h => by omega, fun y h => by omega, Or.inl rfl⟩
theorem MXI_n {F : Nat → Nat → Nat} {n a b mo : Nat} (hb : b = a) (h : MXI F n a b mo) : MXI F n (a + 1) 0 mo := by
  subst hb
  refine ⟨fun x y hx hy => ?_, fun y hy => by omega, h.2.2⟩
  by_cases z : x = b
  · subst z; exact h.2.1 y hy
  · exact h.1 x y (by omega) hy
theorem MXI_le {F : Nat → Nat → Nat} {n a b mo : Nat} (h : MXI F n a b mo) (hf : F a b ≤ mo) : MXI F n a (b + 1) mo := by
  refine ⟨h.1, fun y hy => ?_, h.2.2⟩
  by_cases z : y = b
  · subst z; exact hf
  · exact h.2.1 y (by omega)
theorem MXI_gt {F : Nat → Nat → Nat} {n a b mo : Nat} (ha : a < n) (hb : b < a) (h : MXI F n a b mo) (hf : mo ≤ F a b) : MXI F n a (b + 1) (F a b) := by
  refine ⟨fun x y hx hy => Nat.le_trans (h.1 x y hx hy) hf, fun y hy => ?_, Or.inr ⟨a, b, ha, hb, rfl⟩⟩
  by_cases z : y = b
  · subst z; exact Nat.le_refl _
  · exact Nat.le_trans (h.2.1 y (by omega)) hf
theorem MXI_b {g : Nat → Nat → Nat} {n k T a b mo : Nat} (hg : ∀ i j, i < n → j < k → g i j < n) (h : MXI (fun x y => dst (PL g n k x T) (PL g n k y T) n) n a b mo) : mo ≤ k ^ T := by
  rcases h.2.2 with e | ⟨x, y, hx, hy, e⟩
  · omega
  · rw [e]; exact dst_pow hg hx
theorem MXI_t {g : Nat → Nat → Nat} {n k th T a b mo : Nat} (hg : ∀ i j, i < n → j < k → g i j < n) (h : MXI (fun x y => dst (PL g n k x T) (PL g n k y T) n) n a b mo) (hm : mixA g n k th T = true) : 1000 * mo ≤ th * k ^ T := by
  rcases h.2.2 with e | ⟨x, y, hx, hy, e⟩
  · rw [e]; omega
  · rw [e]
    show 1000 * dst (PL g n k x T) (PL g n k y T) n ≤ _
    rw [dst_comm hg hx (by omega)]
    exact mixA_if2.mp hm y x hy hx
theorem MXI_f {g : Nat → Nat → Nat} {n k th T b mo : Nat} (hg : ∀ i j, i < n → j < k → g i j < n) (h : MXI (fun x y => dst (PL g n k x T) (PL g n k y T) n) n n b mo) (hm : mixA g n k th T = false) : th * k ^ T < 1000 * mo := by
  refine Nat.lt_of_not_le (fun hle => ?_)
  have : mixA g n k th T = true := mixA_if2.mpr (fun u w huw hw => by
    have h1 := h.1 w u hw huw
    have h1 : dst (PL g n k w T) (PL g n k u T) n ≤ mo := h1
    rw [dst_comm hg (by omega) hw]
    exact Nat.le_trans (Nat.mul_le_mul_left _ h1) hle)
  rw [hm] at this
  exact Bool.false_ne_true this
/-! draws -/
theorem dgo_sp {g : Nat → Nat → Nat} {n k x : Nat} : ∀ fu q, q + fu = 200 → (∃ r, q ≤ r ∧ r ≤ 200 ∧ dgo g n k x fu q = nI (6 * r + mpq g k x r 0) ∧ oneB (mpq g k x r) n = true ∧ ∀ z, q ≤ z → z < r → oneB (mpq g k x z) n = false) ∨ (dgo g n k x fu q = -1 ∧ ∀ z, q ≤ z → z ≤ 200 → oneB (mpq g k x z) n = false) := by
  intro fu
  induction fu with
  | zero =>
    intro q hq
    have e0 : dgo g n k x 0 q = if oneB (mpq g k x q) n = true then nI (6 * q + mpq g k x q 0) else -1 := rfl
    cases e : oneB (mpq g k x q) n with
    | true =>
      rw [if_pos e] at e0
      exact Or.inl ⟨q, Nat.le_refl q, by omega, e0, e, fun z h1 h2 => by omega⟩
    | false =>
      rw [if_neg (by rw [e]; exact Bool.false_ne_true)] at e0
      exact Or.inr ⟨e0, fun z h1 h2 => by
        have : z = q := by omega
        rw [this]; exact e⟩
  | succ fu ih =>
    intro q hq
    have e0 : dgo g n k x (fu + 1) q = if oneB (mpq g k x q) n = true then (if oneB (mpq g k x q) n = true then nI (6 * q + mpq g k x q 0) else -1) else dgo g n k x fu (q + 1) := rfl
    cases e : oneB (mpq g k x q) n with
    | true =>
      rw [if_pos e, if_pos e] at e0
      exact Or.inl ⟨q, Nat.le_refl q, by omega, e0, e, fun z h1 h2 => by omega⟩
    | false =>
      rw [if_neg (by rw [e]; exact Bool.false_ne_true)] at e0
      rw [e0]
      rcases ih (q + 1) (by omega) with ⟨r, h1, h2, h3, h4, h5⟩ | ⟨h1, h2⟩
      · refine Or.inl ⟨r, by omega, h2, h3, h4, fun z hz1 hz2 => ?_⟩
        by_cases y : z = q
        · rw [y]; exact e
        · exact h5 z (by omega) hz2
      · refine Or.inr ⟨h1, fun z hz1 hz2 => ?_⟩
        by_cases y : z = q
        · rw [y]; exact e
        · exact h2 z (by omega) hz2
/-- the set of where they come to -/
def orS (F : Nat → Nat) : Nat → Nat
  | 0 => 0
  | q + 1 => orS F q ||| 2 ^ F q
theorem orS_tb {F : Nat → Nat} {b : Nat} : ∀ q, (orS F q).testBit b = true ↔ ∃ i, i < q ∧ F i = b := by
  intro q
  induction q with
  | zero => exact ⟨fun h => by rw [show orS F 0 = 0 from rfl, Nat.zero_testBit] at h; exact absurd h Bool.false_ne_true, fun ⟨i, h, _⟩ => by omega⟩
  | succ q ih =>
    show (orS F q ||| 2 ^ F q).testBit b = true ↔ _
    rw [tb_or, ih, Nat.testBit_two_pow, decide_eq_true_iff]
    constructor
    · rintro (⟨i, h1, h2⟩ | h)
      · exact ⟨i, by omega, h2⟩
      · exact ⟨q, by omega, h⟩
    · rintro ⟨i, h1, h2⟩
      by_cases z : i = q
      · subst z; exact Or.inr h2
      · exact Or.inl ⟨i, by omega, h2⟩
theorem orS_lt {F : Nat → Nat} {n : Nat} (hF : ∀ i, i < n → F i < 6) : ∀ q, q ≤ n → orS F q < 64 := by
  intro q
  induction q with
  | zero => intro _; show 0 < 64; omega
  | succ q ih =>
    intro hq
    have h1 := hF q (by omega)
    exact or64 (ih (by omega)) (pow64 h1 (Nat.le_refl 6))
theorem one_iff {F : Nat → Nat} {n : Nat} : oneB F n = true ↔ ∀ i, i < n → F i = F 0 := by
  unfold oneB
  rw [allB_iff]
  constructor
  · intro h i hi
    cases i with
    | zero => rfl
    | succ i => exact of_decide_eq_true (h i (by omega))
  · intro h i hi
    exact decide_eq_true (h (i + 1) (by omega))
theorem p2s : ∀ S, S < 64 → S ≠ 0 → S &&& (S - 1) = 0 → ∃ v, v < 6 ∧ S = 2 ^ v := by decide +kernel
theorem p2t : ∀ v, v < 6 → 2 ^ v &&& (2 ^ v - 1) = 0 := by decide +kernel
theorem orS_pos {F : Nat → Nat} {n : Nat} (hn : 1 ≤ n) : orS F n ≠ 0 := by
  intro h
  have h1 := (orS_tb (F := F) (b := F 0) n).mpr ⟨0, by omega, rfl⟩
  rw [h, Nat.zero_testBit] at h1
  exact Bool.false_ne_true h1
theorem orS_one {F : Nat → Nat} {n : Nat} (hn : 1 ≤ n) (h : oneB F n = true) : orS F n = 2 ^ F 0 := by
  apply Nat.eq_of_testBit_eq
  intro b
  rw [Bool.eq_iff_iff, orS_tb, Nat.testBit_two_pow, decide_eq_true_iff]
  constructor
  · rintro ⟨i, hi, e⟩; rw [← one_iff.mp h i hi]; exact e
  · intro e; exact ⟨0, by omega, e⟩
theorem orS_no {F : Nat → Nat} {n : Nat} (hn : 1 ≤ n) (hF : ∀ i, i < n → F i < 6) (h : oneB F n = false) : orS F n &&& (orS F n - 1) ≠ 0 := by
  intro h0
  obtain ⟨v, _, e⟩ := p2s _ (orS_lt hF n (Nat.le_refl n)) (orS_pos hn) h0
  have hall : ∀ i, i < n → F i = v := fun i hi => by
    have h1 := (orS_tb (F := F) (b := F i) n).mpr ⟨i, hi, rfl⟩
    rw [e, Nat.testBit_two_pow, decide_eq_true_iff] at h1
    exact h1.symm
  have : oneB F n = true := one_iff.mpr (fun i hi => (hall i hi).trans (hall 0 (by omega)).symm)
  rw [h] at this
  exact Bool.false_ne_true this
theorem orS_yes {F : Nat → Nat} {n : Nat} (hn : 1 ≤ n) (hF : ∀ i, i < n → F i < 6) (h : oneB F n = true) : orS F n &&& (orS F n - 1) = 0 := by
  rw [orS_one hn h]
  exact p2t _ (hF 0 (by omega))
/-- a number less one, where that may be below 0 -/
def zJ (z : Nat) : Int32 := nI z - nI 1
theorem zJ_n {z : Nat} (h : 1 ≤ z) : zJ z = nI (z - 1) := pk_sub h
theorem zJ_s {z : Nat} (h : 1 ≤ z) : zJ z + (-1) = zJ (z - 1) := by
  rw [zJ_n h]
  cases z with
  | zero => omega
  | succ z =>
    cases z with
    | zero => decide
    | succ z =>
      rw [zJ_n (show 1 ≤ z + 1 + 1 - 1 by omega)]
      exact pk_m1 z
theorem zJ_z {z : Nat} (hz : z < 2 ^ 31) (h : zJ z < 0) : z = 0 := by
  apply Classical.byContradiction
  intro y
  rw [zJ_n (by omega)] at h
  exact nI_pos (by omega) h
theorem zJ_q {z : Nat} (h : ¬ zJ z < 0) : 1 ≤ z := by
  apply Classical.byContradiction
  intro y
  have e : z = 0 := by omega
  subst e
  exact h (by decide)
theorem mpq_z {g : Nat → Nat → Nat} {k x z y : Nat} (h : 1 ≤ z) : mpq g k x z y = mpq g k x (z - 1) (g y (sdq x z % k)) := by
  obtain ⟨w, rfl⟩ : ∃ w, z = w + 1 := ⟨z - 1, by omega⟩
  rfl
theorem my2_t {g : Nat → Nat → Nat} {n k x z M y X : Nat} (h : mpq g k x (min z (M - 1)) y = X ∧ y < n) (h2 : M - 1 ≤ z - 1) (h3 : z ≤ M) : mpq g k x (min (z - 1) (M - 1)) y = X ∧ y < n := by
  rw [show min (z - 1) (M - 1) = min z (M - 1) by omega]
  exact h
theorem my2_f {g : Nat → Nat → Nat} {n k x z M y X : Nat} (hg : ∀ i j, i < n → j < k → g i j < n) (hk : 1 ≤ k) (h : mpq g k x (min z (M - 1)) y = X ∧ y < n) (h1 : 1 ≤ z) (h2 : z - 1 < M - 1) : mpq g k x (min (z - 1) (M - 1)) (g y (sdq x z % k)) = X ∧ g y (sdq x z % k) < n := by
  refine ⟨?_, hg _ _ h.2 (Nat.mod_lt _ (by omega))⟩
  rw [show min (z - 1) (M - 1) = z - 1 by omega, ← mpq_z h1]
  have h4 := h.1
  rw [show min z (M - 1) = z by omega] at h4
  exact h4
theorem nI_nm1l : ∀ q, q < 13 → ¬ nI q < -1 := by decide +kernel
/-! games -/
theorem bc_go {fp : Nat → Int32} {g : Nat → Nat → Nat} {n k t i : Nat} {S : Int64} (hS : S = sumL (fun j => lN (cnt (g i) j k) * BC fp g n k t j) n) (h : stV fp k (t + 1) i < S) : BC fp g n k (t + 1) i = S := by
  show (if sumL (fun j => lN (cnt (g i) j k) * BC fp g n k t j) n < stV fp k (t + 1) i then stV fp k (t + 1) i else sumL (fun j => lN (cnt (g i) j k) * BC fp g n k t j) n) = S
  rw [← hS, if_neg (Int64.not_lt.mpr (Int64.le_of_lt h))]
theorem bc_st {fp : Nat → Int32} {g : Nat → Nat → Nat} {n k t i : Nat} {S : Int64} (hS : S = sumL (fun j => lN (cnt (g i) j k) * BC fp g n k t j) n) (h : ¬ stV fp k (t + 1) i < S) : BC fp g n k (t + 1) i = stV fp k (t + 1) i := by
  show (if sumL (fun j => lN (cnt (g i) j k) * BC fp g n k t j) n < stV fp k (t + 1) i then stV fp k (t + 1) i else sumL (fun j => lN (cnt (g i) j k) * BC fp g n k t j) n) = _
  rw [← hS]
  by_cases z : S < stV fp k (t + 1) i
  · rw [if_pos z]
  · rw [if_neg z]; exact Int64.le_antisymm (Int64.not_lt.mp h) (Int64.not_lt.mp z)
theorem st_no {fp : Nat → Int32} {g : Nat → Nat → Nat} {n k t i : Nat} {S : Int64} (hS : S = sumL (fun j => lN (cnt (g i) j k) * BC fp g n k t j) n) (h : stV fp k (t + 1) i < S) : bI (stC fp g n k i (t + 1)) = nI 0 := by
  have e : stC fp g n k i (t + 1) = false := decide_eq_false (by
    show ¬ sumL (fun j => lN (cnt (g i) j k) * BC fp g n k t j) n ≤ stV fp k (t + 1) i
    rw [← hS]; exact Int64.not_le.mpr h)
  rw [e]; rfl
theorem st_yes {fp : Nat → Int32} {g : Nat → Nat → Nat} {n k t i : Nat} {S : Int64} (hS : S = sumL (fun j => lN (cnt (g i) j k) * BC fp g n k t j) n) (h : ¬ stV fp k (t + 1) i < S) : bI (stC fp g n k i (t + 1)) = nI 1 := by
  have e : stC fp g n k i (t + 1) = true := decide_eq_true (by
    show sumL (fun j => lN (cnt (g i) j k) * BC fp g n k t j) n ≤ stV fp k (t + 1) i
    rw [← hS]; exact Int64.not_lt.mp h)
  rw [e]; rfl
theorem st_0 {fp : Nat → Int32} {g : Nat → Nat → Nat} {n k i : Nat} : stC fp g n k i 0 = true := decide_eq_true (Int64.le_refl _)
theorem pay_64 {v : Int32} (h : inR v (-100000) (nI 100000) = true) : -100000 ≤ v.toInt64.toInt ∧ v.toInt64.toInt ≤ 100000 := by
  rw [Int32.toInt_toInt64]; exact pay_t h
def MOI (fp : Nat → Int32) (mo : Int64) (u : Nat) : Prop := (∀ q, q < u → (fp q).toInt64 ≤ mo) ∧ -100000 ≤ mo.toInt ∧ mo.toInt ≤ 100000
theorem MOI_0 {fp : Nat → Int32} : MOI fp (-100000) 0 := ⟨fun q h => by omega, by decide, by decide⟩
theorem MOI_le {fp : Nat → Int32} {mo : Int64} {u : Nat} (h : MOI fp mo u) (h2 : (fp u).toInt64 ≤ mo) : MOI fp mo (u + 1) := by
  refine ⟨fun q hq => ?_, h.2⟩
  by_cases z : q = u
  · rw [z]; exact h2
  · exact h.1 q (by omega)
theorem MOI_gt {fp : Nat → Int32} {mo : Int64} {u : Nat} (hin : inR (fp u) (-100000) (nI 100000) = true) (h : MOI fp mo u) (h2 : ¬ (fp u).toInt64 ≤ mo) : MOI fp (fp u).toInt64 (u + 1) := by
  refine ⟨fun q hq => ?_, pay_64 hin⟩
  by_cases z : q = u
  · rw [z]; exact Int64.le_refl _
  · exact Int64.le_trans (h.1 q (by omega)) (Int64.le_of_lt (Int64.not_le.mp h2))
theorem i64_mul {x y : Int64} (h1 : -9223372036854775808 ≤ x.toInt * y.toInt) (h2 : x.toInt * y.toInt < 9223372036854775808) : (x * y).toInt = x.toInt * y.toInt := by
  rw [Int64.toInt_mul]
  exact Int.bmod_eq_of_le (by show -((2 ^ 64 : Nat) : Int) / 2 ≤ _; omega) (by show _ < (((2 ^ 64 : Nat) : Int) + 1) / 2; omega)
theorem i64_add {x y : Int64} (h1 : -9223372036854775808 ≤ x.toInt + y.toInt) (h2 : x.toInt + y.toInt < 9223372036854775808) : (x + y).toInt = x.toInt + y.toInt := by
  rw [Int64.toInt_add]
  exact Int.bmod_eq_of_le (by show -((2 ^ 64 : Nat) : Int) / 2 ≤ _; omega) (by show _ < (((2 ^ 64 : Nat) : Int) + 1) / 2; omega)
theorem lN_T {a : Nat} (h : a < 2 ^ 63) : (lN a).toInt = (a : Int) := pk_lT h
/-- a sum of numbers each of which is between two bounds -/
theorem sumL_bd {f : Nat → Int64} {C : Int} {B : Nat} : ∀ k, (∀ s, s < k → -(B : Int) ≤ (f s).toInt ∧ (f s).toInt ≤ C) → C ≤ (B : Int) → -(B : Int) ≤ C → (k : Int) * B ≤ 1000000000000000000 → (sumL f k).toInt ≤ k * C ∧ -((k : Int) * B) ≤ (sumL f k).toInt := by
  intro k
  induction k with
  | zero => intro _ _ _ _; exact ⟨by show (0 : Int) ≤ _; simp, by show _ ≤ (0 : Int); simp⟩
  | succ k ih =>
    intro hf hC hC2 hk
    have hk' : (k : Int) * B ≤ 1000000000000000000 := by
      refine Int.le_trans (Int.mul_le_mul_of_nonneg_right (by omega) (by omega)) hk
    obtain ⟨h1, h2⟩ := ih (fun s hs => hf s (by omega)) hC hC2 hk'
    obtain ⟨h3, h4⟩ := hf k (by omega)
    have e1 : ((k + 1 : Nat) : Int) * C = k * C + C := by rw [Int.natCast_succ, Int.add_mul, Int.one_mul]
    have e2 : ((k + 1 : Nat) : Int) * B = k * B + B := by rw [Int.natCast_succ, Int.add_mul, Int.one_mul]
    have h5 : (k : Int) * C ≤ k * B := Int.mul_le_mul_of_nonneg_left hC (by omega)
    rw [e1, e2]
    rw [e2] at hk
    have ea : (sumL f k + f k).toInt = (sumL f k).toInt + (f k).toInt := i64_add (by omega) (by omega)
    show (sumL f k + f k).toInt ≤ _ ∧ _ ≤ (sumL f k + f k).toInt
    rw [ea]
    omega
theorem BV_bd {fp : Nat → Int32} {g : Nat → Nat → Nat} {n k : Nat} {mo : Int64} (hg : ∀ i j, i < n → j < k → g i j < n) (hk1 : 1 ≤ k) (hk : k ≤ 12) (hin : ∀ q, q < n → inR (fp q) (-100000) (nI 100000) = true) (hm : MOI fp mo n) : ∀ t, t ≤ 12 → ∀ i, i < n → (BV fp g k t i).toInt ≤ mo.toInt * ((k ^ t : Nat) : Int) ∧ -(((100000 * k ^ t : Nat)) : Int) ≤ (BV fp g k t i).toInt := by
  have hfp : ∀ q, q < n → (fp q).toInt64.toInt ≤ mo.toInt := fun q hq => Int64.le_iff_toInt_le.mp (hm.1 q hq)
  intro t
  induction t with
  | zero =>
    intro _ i hi
    have h1 := pay_64 (hin i hi)
    have h2 := hfp i hi
    show (fp i).toInt64.toInt ≤ _ ∧ _ ≤ (fp i).toInt64.toInt
    rw [Nat.pow_zero]
    omega
  | succ t ih =>
    intro ht i hi
    have hp := pow_b hk hk1 ht
    have e0 : k ^ (t + 1) = k ^ t * k := Nat.pow_succ k t
    have hB : (k : Int) * ((100000 * k ^ t : Nat) : Int) = ((100000 * k ^ (t + 1) : Nat) : Int) := by
      rw [← Int.natCast_mul, e0]
      exact congrArg _ (by rw [Nat.mul_comm k, Nat.mul_assoc])
    have hK0 : (0 : Int) ≤ ((k ^ t : Nat) : Int) := Int.natCast_nonneg _
    have hK1 : (0 : Int) ≤ ((k ^ (t + 1) : Nat) : Int) := Int.natCast_nonneg _
    have hC1 : mo.toInt * ((k ^ t : Nat) : Int) ≤ ((100000 * k ^ t : Nat) : Int) := by
      rw [Int.natCast_mul]; exact Int.mul_le_mul_of_nonneg_right hm.2.2 hK0
    have hC2 : -((100000 * k ^ t : Nat) : Int) ≤ mo.toInt * ((k ^ t : Nat) : Int) := by
      rw [Int.natCast_mul, ← Int.neg_mul]; exact Int.mul_le_mul_of_nonneg_right hm.2.1 hK0
    obtain ⟨s1, s2⟩ := sumL_bd (f := fun s => BV fp g k t (g i s)) (C := mo.toInt * ((k ^ t : Nat) : Int)) (B := 100000 * k ^ t) k (fun s hs => ⟨(ih (by omega) _ (hg i s hi hs)).2, (ih (by omega) _ (hg i s hi hs)).1⟩) hC1 hC2 (by rw [hB]; omega)
    rw [hB] at s2
    have e1 : (k : Int) * (mo.toInt * ((k ^ t : Nat) : Int)) = mo.toInt * ((k ^ (t + 1) : Nat) : Int) := by
      rw [e0, Int.natCast_mul, ← Int.mul_assoc, Int.mul_comm (k : Int), Int.mul_assoc, Int.mul_comm (k : Int)]
    rw [e1] at s1
    have h1 := pay_64 (hin i hi)
    have m1 : (fp i).toInt64.toInt * ((k ^ (t + 1) : Nat) : Int) ≤ mo.toInt * ((k ^ (t + 1) : Nat) : Int) := Int.mul_le_mul_of_nonneg_right (hfp i hi) hK1
    have m2 : -((100000 * k ^ (t + 1) : Nat) : Int) ≤ (fp i).toInt64.toInt * ((k ^ (t + 1) : Nat) : Int) := by
      rw [Int.natCast_mul, ← Int.neg_mul]; exact Int.mul_le_mul_of_nonneg_right h1.1 hK1
    have m3 : (fp i).toInt64.toInt * ((k ^ (t + 1) : Nat) : Int) ≤ ((100000 * k ^ (t + 1) : Nat) : Int) := by
      rw [Int.natCast_mul]; exact Int.mul_le_mul_of_nonneg_right h1.2 hK1
    have m4 : ((fp i).toInt64 * lN (k ^ (t + 1))).toInt = (fp i).toInt64.toInt * ((k ^ (t + 1) : Nat) : Int) := by
      have e2 : (lN (k ^ (t + 1))).toInt = ((k ^ (t + 1) : Nat) : Int) := lN_T (by omega)
      rw [i64_mul (by rw [e2]; omega) (by rw [e2]; omega), e2]
    show (if (fp i).toInt64 * lN (k ^ (t + 1)) < sumL (fun s => BV fp g k t (g i s)) k then sumL (fun s => BV fp g k t (g i s)) k else (fp i).toInt64 * lN (k ^ (t + 1))).toInt ≤ _ ∧ _ ≤ (if (fp i).toInt64 * lN (k ^ (t + 1)) < sumL (fun s => BV fp g k t (g i s)) k then sumL (fun s => BV fp g k t (g i s)) k else (fp i).toInt64 * lN (k ^ (t + 1))).toInt
    by_cases z : (fp i).toInt64 * lN (k ^ (t + 1)) < sumL (fun s => BV fp g k t (g i s)) k
    · rw [if_pos z]; exact ⟨s1, s2⟩
    · rw [if_neg z, m4]; exact ⟨m1, m2⟩
theorem bc_le {fp : Nat → Int32} {g : Nat → Nat → Nat} {n k t i : Nat} {mo : Int64} (hg : ∀ i j, i < n → j < k → g i j < n) (hk1 : 1 ≤ k) (hk : k ≤ 12) (hin : ∀ q, q < n → inR (fp q) (-100000) (nI 100000) = true) (hm : MOI fp mo n) (ht : t ≤ 12) (hi : i < n) : BC fp g n k t i ≤ mo * lN (k ^ t) := by
  rw [BC_BV hg t i hi]
  have hp := pow_b hk hk1 ht
  have h1 := (BV_bd hg hk1 hk hin hm t ht i hi).1
  have hK0 : (0 : Int) ≤ ((k ^ t : Nat) : Int) := Int.natCast_nonneg _
  have hC1 : mo.toInt * ((k ^ t : Nat) : Int) ≤ ((100000 * k ^ t : Nat) : Int) := by
    rw [Int.natCast_mul]; exact Int.mul_le_mul_of_nonneg_right hm.2.2 hK0
  have hC2 : -((100000 * k ^ t : Nat) : Int) ≤ mo.toInt * ((k ^ t : Nat) : Int) := by
    rw [Int.natCast_mul, ← Int.neg_mul]; exact Int.mul_le_mul_of_nonneg_right hm.2.1 hK0
  have e2 : (lN (k ^ t)).toInt = ((k ^ t : Nat) : Int) := lN_T (by omega)
  rw [Int64.le_iff_toInt_le, i64_mul (by rw [e2]; omega) (by rw [e2]; omega), e2]
  exact h1
theorem sumL_mr {f : Nat → Int64} {y : Int64} : ∀ k, sumL (fun s => f s * y) k = sumL f k * y := by
  intro k
  induction k with
  | zero => exact (Int64.zero_mul (a := y)).symm
  | succ k ih =>
    show sumL (fun s => f s * y) k + f k * y = (sumL f k + f k) * y
    rw [ih, Int64.add_mul]
theorem bc_fair {fp : Nat → Int32} {g : Nat → Nat → Nat} {n k : Nat} (hg : ∀ i j, i < n → j < k → g i j < n) (hin : ∀ q, q < n → inR (fp q) (-100000) (nI 100000) = true) (hf : allB (fun q => decide (DV fp g k q = lN 0)) n = true) : ∀ t i, i < n → BC fp g n k t i = (fp i).toInt64 * lN (k ^ t) := by
  have hsum : ∀ i, i < n → sumL (fun s => (fp (g i s)).toInt64) k = lN k * (fp i).toInt64 := by
    intro i hi
    have h0 : DV fp g k i = lN 0 := of_decide_eq_true (allB_iff.mp hf i hi)
    unfold DV at h0
    rw [sumL_congr (f' := fun s => (fp (g i s)).toInt64 - (fp i).toInt64) (fun s hs => sub_w (pay_t (hin _ (hg i s hi hs))) (pay_t (hin i hi))), sumL_sub] at h0
    have h1 := Int64.sub_add_cancel (a := sumL (fun s => (fp (g i s)).toInt64) k) (b := lN k * (fp i).toInt64)
    rw [h0] at h1
    rw [← h1]
    exact Int64.zero_add _
  intro t
  induction t with
  | zero =>
    intro i hi
    rw [BC_BV hg 0 i hi]
    show (fp i).toInt64 = (fp i).toInt64 * lN (k ^ 0)
    rw [Nat.pow_zero]
    exact (Int64.mul_one _).symm
  | succ t ih =>
    intro i hi
    have hS : sumL (fun s => BV fp g k t (g i s)) k = (fp i).toInt64 * lN (k ^ (t + 1)) := by
      rw [sumL_congr (f' := fun s => (fp (g i s)).toInt64 * lN (k ^ t)) (fun s hs => by rw [← BC_BV hg t _ (hg i s hi hs), ih _ (hg i s hi hs)]), sumL_mr, hsum i hi, Nat.pow_succ, Nat.mul_comm (k ^ t), ← lN_mul, ← Int64.mul_assoc, Int64.mul_comm (lN k)]
    rw [BC_BV hg (t + 1) i hi]
    show (if (fp i).toInt64 * lN (k ^ (t + 1)) < sumL (fun s => BV fp g k t (g i s)) k then sumL (fun s => BV fp g k t (g i s)) k else (fp i).toInt64 * lN (k ^ (t + 1))) = _
    rw [hS]
    split <;> rfl
/-! lumps, reversing -/
theorem lmE_a {f : Nat → Bool} {x : Nat} {E R : Bool} (hE : E = (allB f x && R)) (h : E = false) : false = (allB f (x + 1) && R) := by
  show false = ((f x && allB f x) && R)
  rw [Bool.and_assoc, ← hE, h, Bool.and_false]
theorem lmE_t {f : Nat → Bool} {x : Nat} {E R : Bool} (hE : E = (allB f x && R)) (h : E = true) (hf : f x = true) : true = (allB f (x + 1) && R) := by
  show true = ((f x && allB f x) && R)
  rw [Bool.and_assoc, ← hE, h, hf]
  rfl
theorem lmE_f {f : Nat → Bool} {x : Nat} {R : Bool} (hf : f x = false) : false = (allB f (x + 1) && R) := by
  show false = ((f x && allB f x) && R)
  rw [hf]
  rfl
theorem lmK_1 {g : Nat → Nat → Nat} {n k u w x : Nat} {col : Nat → Nat} (h : col u ≠ col w) : lmK g n k col u w x = true := by
  unfold lmK; rw [decide_eq_false h]; rfl
theorem by_add {a b c d : Nat} : nI a - nI b + (nI c - nI d) = nI (a + c) - nI (b + d) := by
  rw [← nI_add, ← nI_add]
  grind
theorem by_0 {a : Int32} : a + nI 0 = a := by
  rw [nI_0]; exact Int32.add_zero a
theorem by_eq {a b : Nat} (ha : a < 2 ^ 31) (hb : b < 2 ^ 31) : nI a - nI b = 0 ↔ a = b := by
  constructor
  · intro h
    have h1 := Int32.sub_add_cancel (a := nI a) (b := nI b)
    rw [h, Int32.zero_add] at h1
    exact ((nI_eq hb ha).mp h1).symm
  · intro h; rw [h]; exact Int32.sub_self _
theorem lmK_2 {g : Nat → Nat → Nat} {n k u w x v : Nat} {col : Nat → Nat} (hk : k ≤ 12) (hv : v = n) (h : nI (sm (fun q => if col q = x then cnt (g u) q k else 0) v) - nI (sm (fun q => if col q = x then cnt (g w) q k else 0) v) = 0) : lmK g n k col u w x = true := by
  subst hv
  have h1 := WC_le (g := g) (k := k) (col := col) (n := v) (i := u) (x := x)
  have h2 := WC_le (g := g) (k := k) (col := col) (n := v) (i := w) (x := x)
  unfold lmK
  have h3 : WC g k col v u x = WC g k col v w x := (by_eq (by omega) (by omega)).mp h
  rw [decide_eq_true h3, Bool.or_true]
theorem lmK_3 {g : Nat → Nat → Nat} {n k u w x v : Nat} {col : Nat → Nat} (hk : k ≤ 12) (hv : v = n) (hc : col u = col w) (h : ¬ nI (sm (fun q => if col q = x then cnt (g u) q k else 0) v) - nI (sm (fun q => if col q = x then cnt (g w) q k else 0) v) = 0) : lmK g n k col u w x = false := by
  subst hv
  have h1 := WC_le (g := g) (k := k) (col := col) (n := v) (i := u) (x := x)
  have h2 := WC_le (g := g) (k := k) (col := col) (n := v) (i := w) (x := x)
  unfold lmK
  rw [decide_eq_true hc, decide_eq_false (show ¬ WC g k col v u x = WC g k col v w x from fun h3 => h ((by_eq (show WC g k col v u x < 2 ^ 31 by omega) (show WC g k col v w x < 2 ^ 31 by omega)).mpr h3))]
  rfl
theorem tri_sq {P : Nat → Nat → Bool} {n : Nat} (hs : ∀ u w, P u w = P w u) (hd : ∀ u, P u u = true) : allB (fun u => allB (P u) u) n = allB (fun u => allB (P u) n) n := by
  rw [Bool.eq_iff_iff, allB_iff, allB_iff]
  constructor
  · intro h u hu
    rw [allB_iff]
    intro w hw
    rcases Nat.lt_trichotomy u w with q | q | q
    · rw [hs]; exact allB_iff.mp (h w hw) u q
    · rw [q]; exact hd w
    · exact allB_iff.mp (h u hu) w q
  · intro h u hu
    rw [allB_iff]
    exact fun w hw => allB_iff.mp (h u hu) w (by omega)
theorem lm_full {g : Nat → Nat → Nat} {n k : Nat} {col : Nat → Nat} : lmA g n k col = allB (fun u => allB (fun w => allB (lmK g n k col u w) 6) n) n := by
  rw [lm_eq]
  refine tri_sq (P := fun u w => allB (lmK g n k col u w) 6) (fun u w => ?_) (fun u => ?_)
  · refine allB_congr (fun x _ => ?_)
    unfold lmK
    rw [decide_eq_decide.mpr (show col u = col w ↔ col w = col u from ⟨Eq.symm, Eq.symm⟩), decide_eq_decide.mpr (show WC g k col n u x = WC g k col n w x ↔ WC g k col n w x = WC g k col n u x from ⟨Eq.symm, Eq.symm⟩)]
  · rw [allB_iff]
    intro x _
    unfold lmK
    rw [decide_eq_true (rfl : WC g k col n u x = WC g k col n u x), Bool.or_true]
theorem rv_full {g : Nat → Nat → Nat} {n k : Nat} : revA g n k = (allB (fun u => allB (rvG g n k u) n) n && !decide (WR g n k = lN 0)) := by
  rw [rev_eq]
  unfold rvB
  rw [← tri_sq (P := rvG g n k) (fun u w => rvG_s) (fun u => decide_eq_true rfl)]
/-! what a state reaches, as the law looks at it -/
def CLI (g : Nat → Nat → Nat) (n k set q : Nat) (c : Bool) : Prop := c = true ↔ ∀ j, j < q → set.testBit j = true → rcA g n k j (n - 1) = set
theorem CLI_0 {g : Nat → Nat → Nat} {n k set : Nat} : CLI g n k set 0 true := ⟨fun _ j h => by omega, fun _ => rfl⟩
theorem CLI_a {g : Nat → Nat → Nat} {n k set q : Nat} {c : Bool} (h : CLI g n k set q c) (hc : c = false) : CLI g n k set (q + 1) false := by
  constructor
  · intro e; cases e
  · intro h2
    have := h.mpr (fun j hj => h2 j (by omega))
    rw [hc] at this; exact this
theorem CLI_t {g : Nat → Nat → Nat} {n k set q : Nat} {c : Bool} (h : CLI g n k set q c) (hc : c = true) (hq : set.testBit q = true → rcA g n k q (n - 1) = set) : CLI g n k set (q + 1) true := by
  refine ⟨fun _ j hj hb => ?_, fun _ => rfl⟩
  by_cases z : j = q
  · subst z; exact hq hb
  · exact h.mp hc j (by omega) hb
theorem CLI_f {g : Nat → Nat → Nat} {n k set q : Nat} (hb : set.testBit q = true) (hq : rcA g n k q (n - 1) ≠ set) : CLI g n k set (q + 1) false :=
  ⟨fun e => (by cases e), fun h => absurd (h q (by omega) hb) hq⟩
def LOI (n set q lo : Nat) : Prop := lo ≤ n ∧ (∀ j, j < q → set.testBit j = true → lo ≤ j) ∧ (lo = n ∨ set.testBit lo = true)
theorem LOI_0 {n set : Nat} : LOI n set 0 n := ⟨Nat.le_refl n, fun j h => by omega, Or.inl rfl⟩
theorem LOI_no {n set q lo : Nat} (h : LOI n set q lo) (hq : set.testBit q = true → lo ≤ q) : LOI n set (q + 1) lo := by
  refine ⟨h.1, fun j hj hb => ?_, h.2.2⟩
  by_cases z : j = q
  · subst z; exact hq hb
  · exact h.2.1 j (by omega) hb
theorem LOI_yes {n set q lo : Nat} (hqn : q < n) (h : LOI n set q lo) (hb : set.testBit q = true) (hlt : q < lo) : LOI n set (q + 1) q := by
  refine ⟨by omega, fun j hj hb2 => ?_, Or.inr hb⟩
  by_cases z : j = q
  · omega
  · have := h.2.1 j (by omega) hb2
    omega
theorem cl_end {g : Nat → Nat → Nat} {n k i q lo : Nat} {c : Bool} (hg : ∀ i j, i < n → j < k → g i j < n) (hn : n ≤ 6) (hi : i < n) (hq : q = n) (h1 : CLI g n k (rcA g n k i (n - 1)) q c) (h2 : LOI n (rcA g n k i (n - 1)) q lo) : (c = true ∧ lo = i) ↔ lowB g n k i = true := by
  subst hq
  rw [← cl_low hg hn hi]
  have hself : (rcA g q k i (q - 1)).testBit i = true := (rc_iff hg hn hi).mpr Rc_refl
  have hlo := h2.2.1 i hi hself
  constructor
  · rintro ⟨hc, rfl⟩
    exact ⟨h1.mp hc, h2.2.1⟩
  · rintro ⟨a, b⟩
    refine ⟨h1.mpr a, ?_⟩
    rcases h2.2.2 with e | e
    · omega
    · have := b lo (by omega) e
      omega
theorem nB_s1 {f : Nat → Bool} {i : Nat} (h : f i = true) : nB f (i + 1) = nB f i + 1 := by
  show nB f i + (if f i = true then 1 else 0) = _
  rw [if_pos h]
theorem nB_s0 {f : Nat → Bool} {i : Nat} (h : ¬ f i = true) : nB f (i + 1) = nB f i + 0 := by
  show nB f i + (if f i = true then 1 else 0) = _
  rw [if_neg h]
theorem orS_all {F : Nat → Nat} {n : Nat} (h1 : ∀ i, i < n → F i < n) (h2 : ∀ b, b < n → ∃ i, i < n ∧ F i = b) : orS F n = 2 ^ n - 1 := by
  apply Nat.eq_of_testBit_eq
  intro b
  rw [Bool.eq_iff_iff, orS_tb, Nat.testBit_two_pow_sub_one, decide_eq_true_iff]
  exact ⟨fun ⟨i, hi, e⟩ => e ▸ h1 i hi, h2 b⟩
/-! pays and colours told -/
theorem pay_inT {v : Nat} (h : v < 200001) : inR (nI v - nI 100000) (-100000) (nI 100000) = true := by
  have e : (nI v - nI 100000).toInt = (v : Int) - (100000 : Nat) := pk_sub_toInt (by omega) (by omega)
  unfold inR
  have h1 : ¬ nI v - nI 100000 < -100000 := by
    rw [Int32.lt_iff_toInt_lt, e, show (-100000 : Int32).toInt = -100000 by decide]
    omega
  have h2 : ¬ nI 100000 < nI v - nI 100000 := by
    rw [Int32.lt_iff_toInt_lt, e, show (nI 100000).toInt = 100000 by decide]
    omega
  rw [decide_eq_false h1, decide_eq_false h2]
  rfl
/-- a number of the law's draws -/
theorem drw {v : Int32} {mo : Nat} (h0 : 0 < mo) (h1 : mo < 2 ^ 31) : ∃ r, r < mo ∧ (v &&& 2147483647) - (v &&& 2147483647) / nI mo * nI mo = nI r := by
  obtain ⟨j, hj, e⟩ := pk_andE v (m := 2147483647) 31 (by decide)
  rw [e, pk_rem (by omega) h0 h1]
  exact ⟨j % mo, Nat.mod_lt _ h0, rfl⟩
theorem by_s1 {col : Nat → Nat} {F G : Nat → Nat} {x v : Nat} (h : col v ≠ x) : nI (sm (fun q => if col q = x then F q else 0) v) - nI (sm (fun q => if col q = x then G q else 0) v) + nI 0 = nI (sm (fun q => if col q = x then F q else 0) (v + 1)) - nI (sm (fun q => if col q = x then G q else 0) (v + 1)) := by
  have e1 : sm (fun q => if col q = x then F q else 0) (v + 1) = sm (fun q => if col q = x then F q else 0) v + (if col v = x then F v else 0) := rfl
  have e2 : sm (fun q => if col q = x then G q else 0) (v + 1) = sm (fun q => if col q = x then G q else 0) v + (if col v = x then G v else 0) := rfl
  rw [e1, e2, if_neg h, if_neg h, by_0, Nat.add_zero, Nat.add_zero]
theorem by_s0 {col : Nat → Nat} {F G : Nat → Nat} {x v : Nat} (h : col v = x) : nI (sm (fun q => if col q = x then F q else 0) v) - nI (sm (fun q => if col q = x then G q else 0) v) + (nI (F v) - nI (G v)) = nI (sm (fun q => if col q = x then F q else 0) (v + 1)) - nI (sm (fun q => if col q = x then G q else 0) (v + 1)) := by
  have e1 : sm (fun q => if col q = x then F q else 0) (v + 1) = sm (fun q => if col q = x then F q else 0) v + (if col v = x then F v else 0) := rfl
  have e2 : sm (fun q => if col q = x then G q else 0) (v + 1) = sm (fun q => if col q = x then G q else 0) v + (if col v = x then G v else 0) := rfl
  rw [e1, e2, if_pos h, if_pos h, by_add]
/-! comparisons of shares -/
theorem sh_v {a w : Nat} {op : ClassFile.CmpOp} (hw : 0 < w) (ha : a < 2 ^ 24) (hw2 : w < 2 ^ 24) : Op.cmpValue (FP.fcmp (FP.fdiv (FP.l2f (lN a)) (FP.l2f (lN w))) FP.fconst0) op = nI (if 0 < a then 1 else 0) := by
  rw [sh_0 hw ha hw2]
  by_cases z : 0 < a
  · rw [if_pos z, if_pos z]; rfl
  · rw [if_neg z, if_neg z]; rfl
theorem sh_lt {a w : Nat} {op : ClassFile.CmpOp} (hw : 0 < w) (ha : a < 2 ^ 24) (hw2 : w < 2 ^ 24) : ¬ Op.cmpValue (FP.fcmp (FP.fdiv (FP.l2f (lN a)) (FP.l2f (lN w))) FP.fconst0) op < 0 := by
  rw [sh_v hw ha hw2]
  split <;> decide
theorem sh_le1 {a w : Nat} {op : ClassFile.CmpOp} (hw : 0 < w) (ha : a < 2 ^ 24) (hw2 : w < 2 ^ 24) (h : a ≤ w) : ¬ 0 < Op.cmpValue (FP.fcmp (FP.fdiv (FP.l2f (lN a)) (FP.l2f (lN w))) FP.fconst1) op := by
  rcases sh_1 hw ha hw2 h with e | e
  · rw [e]; show ¬ (0 : Int32) < -1; decide
  · rw [e]; show ¬ (0 : Int32) < 0; decide
theorem sh_if {a : Nat} : (if 0 < a then 1 else 0) ≤ 1 := by split <;> omega
theorem shx1 {a : Nat} (h1 : (if 0 < a then 1 else 0) = 0) (h2 : ¬ lN a ≤ lN 0) : False := by
  by_cases z : 0 < a
  · rw [if_pos z] at h1; omega
  · have e : a = 0 := by omega
    subst e
    exact h2 (Int64.le_refl _)
theorem shx2 {a : Nat} (ha : a < 2 ^ 63) (h1 : 0 < (if 0 < a then 1 else 0)) (h2 : lN a ≤ lN 0) : False := by
  by_cases z : 0 < a
  · have := (pk_lLE ha (by omega)).mp h2; omega
  · rw [if_neg z] at h1; omega
