-- ===== the class: classes =====
def so2 (g : Nat → Nat → Nat) (k X B i : Nat) : Nat → Nat
  | 0 => B
  | j + 1 => so2 g k X B i j ||| (if X / 2 ^ i % 2 = 1 ∧ 0 < cnt (g i) j k then 2 ^ j else 0)
def soO (g : Nat → Nat → Nat) (n k X : Nat) : Nat → Nat
  | 0 => 0
  | i + 1 => so2 g k X (soO g n k X i) i n
theorem so2_lt {g : Nat → Nat → Nat} {n k X B i : Nat} (hn : n ≤ 6) (hB : B < 64) : ∀ j, j ≤ n → so2 g k X B i j < 64 := by
  intro j
  induction j with
  | zero => intro _; exact hB
  | succ j ih =>
    intro hj
    refine or64 (ih (by omega)) ?_
    split
    · exact pow64 (by omega : j < n) hn
    · omega
theorem soO_lt {g : Nat → Nat → Nat} {n k X : Nat} (hn : n ≤ 6) : ∀ i, i ≤ n → soO g n k X i < 64 := by
  intro i
  induction i with
  | zero => intro _; show 0 < 64; omega
  | succ i ih => intro hi; exact so2_lt hn (ih (by omega)) n (Nat.le_refl n)
theorem so2_t {g : Nat → Nat → Nat} {k X B i j : Nat} (h1 : X / 2 ^ i % 2 = 1) (h2 : 0 < cnt (g i) j k) : so2 g k X B i j ||| 2 ^ j = so2 g k X B i (j + 1) := by
  show _ = so2 g k X B i j ||| (if _ then _ else _); rw [if_pos ⟨h1, h2⟩]
theorem so2_f {g : Nat → Nat → Nat} {k X B i j : Nat} (h : ¬ X / 2 ^ i % 2 = 1 ∨ cnt (g i) j k = 0) : so2 g k X B i j = so2 g k X B i (j + 1) := by
  show _ = so2 g k X B i j ||| (if _ then _ else _)
  rw [if_neg (fun z => by rcases h with h | h; exact h z.1; omega), Nat.or_zero]
def rcA (g : Nat → Nat → Nat) (n k i : Nat) : Nat → Nat
  | 0 => 2 ^ i
  | q + 1 => rcA g n k i q ||| soO g n k (rcA g n k i q) n
theorem rcA_lt {g : Nat → Nat → Nat} {n k i : Nat} (hn : n ≤ 6) (hi : i < n) (q : Nat) : rcA g n k i q < 64 := by
  induction q with
  | zero => exact pow64 hi hn
  | succ q ih => exact or64 ih (soO_lt hn n (Nat.le_refl n))
def lwF (g : Nat → Nat → Nat) (n k i q : Nat) : Bool := decide (rcA g n k i (n - 1) &&& 2 ^ q = 0) || (!decide (q < i) && !decide (rcA g n k q (n - 1) &&& 2 ^ i = 0))
def lowB (g : Nat → Nat → Nat) (n k i : Nat) : Bool := allB (lwF g n k i) n
theorem allB_f {f : Nat → Bool} {n q : Nat} (hq : q < n) (h : f q = false) : allB f n = false := by
  cases e : allB f n with
  | false => rfl
  | true => rw [allB_iff.mp e q hq] at h; cases h
def stA (g : Nat → Nat → Nat) (n k i : Nat) : Nat → Nat
  | 0 => 2 ^ i
  | q + 1 => soO g n k (stA g n k i q) n
theorem stA_lt {g : Nat → Nat → Nat} {n k i : Nat} (hn : n ≤ 6) (hi : i < n) (q : Nat) : stA g n k i q < 64 := by
  cases q with
  | zero => exact pow64 hi hn
  | succ q => exact soO_lt hn n (Nat.le_refl n)
def prB (g : Nat → Nat → Nat) (n k i : Nat) : Nat → Nat
  | 0 => 0
  | q + 1 => if stA g n k i (q + 1) &&& 2 ^ i = 0 then prB g n k i q else prB g n k i q ||| 2 ^ (q + 1)
theorem prB_lt {g : Nat → Nat → Nat} {n k i : Nat} : ∀ q, q ≤ 12 → prB g n k i q < 8192 := by
  intro q
  induction q with
  | zero => intro _; show 0 < 8192; omega
  | succ q ih =>
    intro hq
    unfold prB
    split
    · exact ih (by omega)
    · exact Nat.or_lt_two_pow (n := 13) (ih (by omega)) (Nat.pow_lt_pow_right (by decide) (by omega))
def dvF (d N q : Nat) : Bool := decide (N &&& 2 ^ (q + 1) = 0) || decide ((q + 1) % d = 0)
def dvA (d N : Nat) : Bool := allB (dvF d N) 12
def gdD (N : Nat) : Nat → Nat
  | 0 => 1
  | d + 1 => if d = 0 then 1 else if dvA (d + 1) N = true then d + 1 else gdD N d
theorem gdD_1 {N d : Nat} (h : d ≤ 1) : gdD N d = 1 := by
  match d, h with
  | 0, _ => rfl
  | 1, _ => rfl
theorem gdD_t {N d : Nat} (h : 1 < d) (h2 : dvA d N = true) : gdD N d = d := by
  obtain ⟨z, rfl⟩ : ∃ z, d = z + 1 := ⟨d - 1, by omega⟩
  show (if z = 0 then 1 else if dvA (z + 1) N = true then z + 1 else gdD N z) = _
  rw [if_neg (by omega), if_pos h2]
theorem gdD_f {N d : Nat} (h : 1 < d) (h2 : dvA d N = false) : gdD N d = gdD N (d - 1) := by
  obtain ⟨z, rfl⟩ : ∃ z, d = z + 1 := ⟨d - 1, by omega⟩
  show (if z = 0 then 1 else if dvA (z + 1) N = true then z + 1 else gdD N z) = _
  rw [if_neg (by omega), h2]; rfl
theorem gdD_le (N : Nat) : ∀ d, gdD N d ≤ d ∨ gdD N d = 1 := by
  intro d
  induction d with
  | zero => exact Or.inr rfl
  | succ d ih =>
    unfold gdD
    split
    · exact Or.inr rfl
    · split
      · exact Or.inl (Nat.le_refl _)
      · rcases ih with h | h
        · exact Or.inl (by omega)
        · exact Or.inr h
def prC (g : Nat → Nat → Nat) (n k i : Nat) : Nat := if prB g n k i 12 = 0 then 0 else gdD (prB g n k i 12) 12
-- ===== the class: trees =====
def ENs (g : Nat → Nat → Nat) (k a b : Nat) : Int64 := if a = b then lN (k - cnt (g a) b k) else -lN (cnt (g a) b k)
def LI (root q : Nat) (fO : Nat → Int32) : Prop := ∀ r, ot root r < q → fO r = nI (ot root r)
theorem LI_0 {root : Nat} {fO : Nat → Int32} : LI root 0 fO := fun r h => by omega
theorem LI_r {root : Nat} {fO : Nat → Int32} (h : LI root root fO) : LI root (root + 1) fO := by
  intro r hr
  refine h r ?_
  have : ot root r ≠ root := by unfold ot; split <;> omega
  omega
theorem LI_1 {root q : Nat} {fO : Nat → Int32} (h : LI root q fO) (hq : q < root) : LI root (q + 1) (upd fO q (nI q)) := by
  intro r hr
  by_cases e : r = q
  · subst e; rw [pk_us]; exact congrArg nI (ot_s hq)
  · rw [pk_un e]
    refine h r ?_
    have : ot root r ≠ q := by unfold ot; split <;> omega
    omega
theorem LI_2 {root q : Nat} {fO : Nat → Int32} (h : LI root q fO) (hq : root < q) : LI root (q + 1) (upd fO (q - 1) (nI q)) := by
  intro r hr
  by_cases e : r = q - 1
  · subst e; rw [pk_us]; refine congrArg nI ?_; rw [← ot_b (by omega)]; omega
  · rw [pk_un e]
    refine h r ?_
    have : ot root r ≠ q := by unfold ot; split <;> omega
    omega
def zI (z : Nat) : Int32 := nI z - nI 1
theorem zI_s : ∀ z, z < 7 → 1 ≤ z → zI z + (-1) = zI (z - 1) := by decide +kernel
theorem zI_n : ∀ z, z < 7 → 1 ≤ z → zI z = nI (z - 1) := by decide +kernel
theorem zI_0 : zI 0 < 0 := by decide +kernel
theorem zI_p : ∀ z, z < 7 → 1 ≤ z → ¬ zI z < 0 := by decide +kernel
def sgI (X z : Nat) : Int32 := if bitsN (X / 2 ^ z) 6 % 2 = 0 then nI 1 else -nI 1
theorem sgI_t : ∀ z, z < 6 → 1 ≤ z → ∀ X, X < 32 → X / 2 ^ (z - 1) % 2 = 1 → -sgI X z = sgI X (z - 1) := by decide +kernel
theorem sgI_f : ∀ z, z < 6 → 1 ≤ z → ∀ X, X < 32 → ¬ X / 2 ^ (z - 1) % 2 = 1 → sgI X z = sgI X (z - 1) := by decide +kernel
theorem sgI_M : ∀ M, M < 6 → ∀ X, X < 32 → X < 2 ^ M → nI 1 = sgI X M := by decide +kernel
def mD (F : Nat → Int64) (M : Nat) : Nat → Int64
  | 0 => lN 0
  | j + 1 => mD F M j + F (M - 1 - j)
theorem sumL_add {f : Nat → Int64} {n : Nat} : sumL f (n + 1) = f 0 + sumL (fun i => f (i + 1)) n := by
  induction n with
  | zero => show lN 0 + f 0 = f 0 + lN 0; rw [Int64.add_comm]
  | succ n ih => show sumL f (n + 1) + f (n + 1) = f 0 + (sumL (fun i => f (i + 1)) n + f (n + 1)); rw [ih, Int64.add_assoc]
theorem mD_e {F : Nat → Int64} : ∀ M j, j ≤ M → mD F M j = sumL (fun i => F (M - j + i)) j := by
  intro M j
  induction j with
  | zero => intro _; rfl
  | succ j ih =>
    intro hj
    show mD F M j + F (M - 1 - j) = _
    rw [sumL_add, ih (by omega), Int64.add_comm]
    have e1 : M - 1 - j = M - (j + 1) + 0 := by omega
    rw [← e1]
    congr 1
    apply sumL_congr
    intro i _
    show F (M - j + i) = F (M - (j + 1) + (i + 1))
    congr 1
    omega
theorem mD_M {F : Nat → Int64} {M : Nat} : mD F M M = sumL F M := by
  rw [mD_e M M (Nat.le_refl M)]
  apply sumL_congr
  intro i _
  show F (M - M + i) = F i
  congr 1
  omega
theorem mtm_sg {E : Nat → Nat → Int64} {T : Nat → Int64} {X z : Nat} {ex tx : Int64} (hz : 1 ≤ z) (hb : X / 2 ^ (z - 1) % 2 = 1) (he : ex = E (bitsN X 6 - 1) (z - 1)) (ht : tx = T (X - 2 ^ (z - 1))) : (sgI X z).toInt64 * ex * tx = mtm E T X (z - 1) := by
  unfold mtm sgI
  rw [if_pos hb, show z - 1 + 1 = z by omega, he, ht]
  split
  · rw [show (nI 1).toInt64 = 1 from by decide, Int64.one_mul]
  · rw [show (-nI 1).toInt64 = -1 from by decide, Int64.neg_mul, Int64.one_mul, Int64.neg_mul]
def revA (g : Nat → Nat → Nat) (n k : Nat) : Bool := !decide (WR g n k = lN 0) && allB (fun u => allB (fun w => !decide (u < w) || rvG g n k u w) n) n
theorem revA_0 {g : Nat → Nat → Nat} {n k : Nat} (h : WR g n k = lN 0) : revA g n k = false := by unfold revA; rw [decide_eq_true h]; rfl
theorem revA_t {g : Nat → Nat → Nat} {n k : Nat} (h0 : ¬ WR g n k = lN 0) (h : ∀ u w, u < w → w < n → rvG g n k u w = true) : revA g n k = true := by
  unfold revA
  rw [decide_eq_false h0]
  refine allB_iff.mpr (fun u hu => allB_iff.mpr (fun w hw => ?_))
  by_cases z : u < w
  · rw [h u w z hw, Bool.or_true]
  · rw [decide_eq_false z]; rfl
theorem revA_f {g : Nat → Nat → Nat} {n k u w : Nat} (h1 : u < w) (h2 : w < n) (h : rvG g n k u w = false) : revA g n k = false := by
  unfold revA
  rw [Bool.and_eq_false_iff]
  right
  refine allB_f (q := u) (by omega) (allB_f (q := w) h2 ?_)
  rw [decide_eq_true h1, h]; rfl
