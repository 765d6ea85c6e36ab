-- ===== rests =====
def ot (root r : Nat) : Nat := if r < root then r else r + 1
theorem ot_lt {root r n : Nat} (hr : r < n - 1) (hn : root < n) : ot root r < n := by unfold ot; split <;> omega
/-- the entry of row r, column c -/
def EN (g : Nat → Nat → Nat) (k root r c : Nat) : Int64 := if ot root r = ot root c then lN (k - cnt (g (ot root r)) (ot root c) k) else -lN (cnt (g (ot root r)) (ot root c) k)
theorem ng_l : ∀ c, c < 13 → (-nI c).toInt64 = -lN c := by decide +kernel
def WI (g : Nat → Nat → Nat) (k root M q : Nat) (fW : Nat → Int64) : Prop := ∀ j, j < q → fW (5 * (j / M) + j % M) = EN g k root (j / M) (j % M)
theorem WI_0 {g : Nat → Nat → Nat} {k root M : Nat} {fW : Nat → Int64} : WI g k root M 0 fW := fun j h => by omega
theorem WI_s {g : Nat → Nat → Nat} {k root M q : Nat} {fW : Nat → Int64} {x : Int64} (hM : M ≤ 5) (h0 : 0 < M) (h : WI g k root M q fW) (hx : x = EN g k root (q / M) (q % M)) : WI g k root M (q + 1) (vp_updL fW (5 * (q / M) + q % M) x) := by
  intro j hj
  by_cases e : j = q
  · subst e; rw [pk_uLs, hx]
  · have h1 : j % M < M := Nat.mod_lt _ h0
    have h2 : q % M < M := Nat.mod_lt _ h0
    have h3 := Nat.div_add_mod j M
    have h4 := Nat.div_add_mod q M
    have ne : 5 * (j / M) + j % M ≠ 5 * (q / M) + q % M := by
      intro z
      have e1 : j / M = q / M := by omega
      have e2 : j % M = q % M := by omega
      apply e
      rw [← h3, ← h4, e1, e2]
    rw [pk_uLn ne]; exact h j (by omega)
theorem WI_e {g : Nat → Nat → Nat} {k root M : Nat} {fW : Nat → Int64} (h : WI g k root M (M * M) fW) : ∀ r c, r < M → c < M → fW (5 * r + c) = EN g k root r c := by
  intro r c hr hc
  have e1 : (M * r + c) / M = r := by rw [Nat.mul_add_div (by omega), Nat.div_eq_of_lt hc, Nat.add_zero]
  have e2 : (M * r + c) % M = c := by rw [Nat.mul_add_mod, Nat.mod_eq_of_lt hc]
  have hlt : M * r + c < M * M := by
    have : M * (r + 1) ≤ M * M := Nat.mul_le_mul (Nat.le_refl M) hr
    rw [Nat.mul_add] at this
    omega
  have := h (M * r + c) hlt
  rw [e1, e2] at this
  exact this
/-- how many bits, of the lowest q ones -/
def bitsN (X : Nat) : Nat → Nat
  | 0 => 0
  | i + 1 => bitsN X i + X / 2 ^ i % 2
theorem bitsN_le (X q : Nat) : bitsN X q ≤ q := by
  induction q with
  | zero => exact Nat.le_refl 0
  | succ q ih => unfold bitsN; have : X / 2 ^ q % 2 < 2 := Nat.mod_lt _ (by decide); omega
theorem bitsN_pos : ∀ X, X < 32 → 0 < X → 1 ≤ bitsN X 6 := by decide +kernel
theorem bitsN_M : ∀ M, M < 6 → ∀ X, X < 32 → X < 2 ^ M → bitsN X 6 ≤ M := by decide +kernel
theorem clr_b : ∀ c, c < 5 → ∀ X, X < 32 → X / 2 ^ c % 2 = 1 → nI X &&& (nI (2 ^ c) ^^^ (-1)) = nI (X - 2 ^ c) := by decide +kernel
theorem clr_le : ∀ c, c < 5 → ∀ X, X < 32 → X / 2 ^ c % 2 = 1 → 2 ^ c ≤ X := by decide +kernel
/-- a term of a minor, with its sign -/
def mtm (E : Nat → Nat → Int64) (T : Nat → Int64) (X c : Nat) : Int64 := if X / 2 ^ c % 2 = 1 then (if bitsN (X / 2 ^ (c + 1)) 6 % 2 = 0 then E (bitsN X 6 - 1) c * T (X - 2 ^ c) else -(E (bitsN X 6 - 1) c * T (X - 2 ^ c))) else lN 0
def sumL (f : Nat → Int64) : Nat → Int64
  | 0 => lN 0
  | i + 1 => sumL f i + f i
theorem sumL_congr {f f' : Nat → Int64} {n : Nat} (h : ∀ i, i < n → f i = f' i) : sumL f n = sumL f' n := by
  induction n with
  | zero => rfl
  | succ n ih => unfold sumL; rw [ih (fun i hi => h i (by omega)), h n (by omega)]
def mtab (E : Nat → Nat → Int64) (M : Nat) : Nat → Nat → Int64
  | 0, _ => lN 1
  | X + 1, j => if j = X + 1 then sumL (mtm E (mtab E M X) (X + 1)) M else mtab E M X j
def mv (E : Nat → Nat → Int64) (M X : Nat) : Int64 := mtab E M X X
theorem mtab_eq {E : Nat → Nat → Int64} {M : Nat} : ∀ Y j, j ≤ Y → mtab E M Y j = mv E M j := by
  intro Y
  induction Y with
  | zero => intro j hj; have : j = 0 := by omega
            subst this; rfl
  | succ Y ih =>
    intro j hj
    by_cases e : j = Y + 1
    · subst e; rfl
    · show (if j = Y + 1 then _ else mtab E M Y j) = _
      rw [if_neg e]; exact ih j (by omega)
theorem mv_0 {E : Nat → Nat → Int64} {M : Nat} : mv E M 0 = lN 1 := rfl
theorem mv_s {E : Nat → Nat → Int64} {M X : Nat} (hX : 0 < X) (hX2 : X < 32) (hM : M ≤ 5) : mv E M X = sumL (mtm E (mv E M) X) M := by
  obtain ⟨Y, rfl⟩ : ∃ Y, X = Y + 1 := ⟨X - 1, by omega⟩
  show (if Y + 1 = Y + 1 then sumL (mtm E (mtab E M Y) (Y + 1)) M else _) = _
  rw [if_pos rfl]
  apply sumL_congr
  intro c hc
  unfold mtm
  by_cases b : (Y + 1) / 2 ^ c % 2 = 1
  · have h1 := clr_le c (by omega) (Y + 1) hX2 b
    have h2 : 0 < 2 ^ c := Nat.two_pow_pos c
    rw [if_pos b, if_pos b, mtab_eq Y _ (by omega)]
  · rw [if_neg b, if_neg b]
/-- the rest of a state -/
def RV (g : Nat → Nat → Nat) (n k root : Nat) : Int64 := mv (EN g k root) (n - 1) (2 ^ (n - 1) - 1)
def WR (g : Nat → Nat → Nat) (n k : Nat) : Int64 := sumL (RV g n k) n
/-- minors below X are there -/
def MI (E : Nat → Nat → Int64) (M X : Nat) (fM : Nat → Int64) : Prop := ∀ j, j < X → fM j = mv E M j
theorem MI_1 {E : Nat → Nat → Int64} {M : Nat} {fM : Nat → Int64} : MI E M 1 (vp_updL fM 0 (lN 1)) := fun j hj => by
  have : j = 0 := by omega
  subst this
  rw [pk_uLs]; rfl
def NI (E : Nat → Nat → Int64) (M X c : Nat) (fM : Nat → Int64) : Prop := MI E M X fM ∧ fM X = sumL (mtm E (mv E M) X) c
theorem NI_0 {E : Nat → Nat → Int64} {M X : Nat} {fM : Nat → Int64} (h : MI E M X fM) : NI E M X 0 (vp_updL fM X (lN 0)) := ⟨fun j hj => by rw [pk_uLn (by omega)]; exact h j hj, by rw [pk_uLs]; rfl⟩
theorem NI_s {E : Nat → Nat → Int64} {M X c : Nat} {fM : Nat → Int64} {x : Int64} (h : NI E M X c fM) (hx : x = mtm E (mv E M) X c) : NI E M X (c + 1) (vp_updL fM X (fM X + x)) := ⟨fun j hj => by rw [pk_uLn (by omega)]; exact h.1 j hj, by rw [pk_uLs, h.2, hx]; rfl⟩
theorem NI_n {E : Nat → Nat → Int64} {M X c : Nat} {fM : Nat → Int64} (h : NI E M X c fM) (hb : X / 2 ^ c % 2 ≠ 1) : NI E M X (c + 1) fM := ⟨h.1, by
  rw [h.2]
  show _ = sumL (mtm E (mv E M) X) c + mtm E (mv E M) X c
  rw [show mtm E (mv E M) X c = lN 0 from if_neg hb]
  exact (Int64.add_zero _).symm⟩
theorem NI_e {E : Nat → Nat → Int64} {M X : Nat} {fM : Nat → Int64} (h : NI E M X M fM) (hX : 0 < X) (hX2 : X < 32) (hM : M ≤ 5) : MI E M (X + 1) fM := by
  intro j hj
  by_cases e : j = X
  · subst e; rw [h.2, mv_s hX hX2 hM]
  · exact h.1 j (by omega)
-- ===== ranks =====
def aheadB (F : Nat → Int64) (i q : Nat) : Bool := decide (F i < F q) || (decide (F q = F i) && decide (q < i))
def plc (F : Nat → Int64) (i q : Nat) : Nat := nB (aheadB F i) q
def lastP (P : Nat → Bool) : Nat → Int32
  | 0 => -1
  | i + 1 => if P i = true then nI i else lastP P i
-- ===== draws =====
def sd (x : Nat) : Nat := (7919 * x + 12345) % 65521
theorem sd_lt (x : Nat) : sd x < 65521 := Nat.mod_lt _ (by decide)
def sdq (x : Nat) : Nat → Nat
  | 0 => x
  | q + 1 => sd (sdq x q)
theorem sdq_lt {x : Nat} (h : x < 65521) (q : Nat) : sdq x q < 65521 := by
  cases q with
  | zero => exact h
  | succ q => exact sd_lt _
def wk (g : Nat → Nat → Nat) (k f x : Nat) : Nat → Nat
  | 0 => f
  | q + 1 => g (wk g k f x q) (sdq x (q + 1) % k)
theorem wk_lt {g : Nat → Nat → Nat} {n k f x : Nat} (hg : ∀ i j, i < n → j < k → g i j < n) (hk : 0 < k) (hf : f < n) (q : Nat) : wk g k f x q < n := by
  induction q with
  | zero => exact hf
  | succ q ih => exact hg _ _ ih (Nat.mod_lt _ hk)
def mpq (g : Nat → Nat → Nat) (k x : Nat) : Nat → Nat → Nat
  | 0, i => i
  | q + 1, i => mpq g k x q (g i (sdq x (q + 1) % k))
theorem mpq_lt {g : Nat → Nat → Nat} {n k x : Nat} (hg : ∀ i j, i < n → j < k → g i j < n) (hk : 0 < k) (q : Nat) : ∀ i, i < n → mpq g k x q i < n := by
  induction q with
  | zero => exact fun i h => h
  | succ q ih => exact fun i h => ih _ (hg _ _ h (Nat.mod_lt _ hk))
def oneB (F : Nat → Nat) (n : Nat) : Bool := allB (fun q => decide (F (q + 1) = F 0)) (n - 1)
def dfin (g : Nat → Nat → Nat) (n k x q : Nat) : Int32 := if oneB (mpq g k x q) n = true then nI (6 * q + mpq g k x q 0) else -1
def dgo (g : Nat → Nat → Nat) (n k x : Nat) : Nat → Nat → Int32
  | 0, q => dfin g n k x q
  | fu + 1, q => if oneB (mpq g k x q) n = true then dfin g n k x q else dgo g n k x fu (q + 1)
theorem dgo_s {g : Nat → Nat → Nat} {n k x q : Nat} (h : q < 200) (h2 : oneB (mpq g k x q) n = false) : dgo g n k x (200 - q) q = dgo g n k x (200 - (q + 1)) (q + 1) := by
  obtain ⟨fu, e⟩ : ∃ fu, 200 - q = fu + 1 := ⟨200 - q - 1, by omega⟩
  have e2 : 200 - (q + 1) = fu := by omega
  rw [e, e2]
  show (if oneB (mpq g k x q) n = true then _ else _) = _
  rw [h2]; rfl
theorem dgo_t {g : Nat → Nat → Nat} {n k x q : Nat} (h2 : oneB (mpq g k x q) n = true) (fu : Nat) : dgo g n k x fu q = nI (6 * q + mpq g k x q 0) := by
  cases fu with
  | zero => show dfin g n k x q = _; unfold dfin; rw [if_pos h2]
  | succ fu => show (if oneB (mpq g k x q) n = true then dfin g n k x q else _) = _; rw [if_pos h2]; unfold dfin; rw [if_pos h2]
theorem dgo_e {g : Nat → Nat → Nat} {n k x q : Nat} (h : 200 ≤ q) (h2 : oneB (mpq g k x q) n = false) : dgo g n k x (200 - q) q = -1 := by
  rw [show 200 - q = 0 by omega]
  show dfin g n k x q = _
  unfold dfin; rw [h2]; rfl
-- ===== games =====
def DV (fp : Nat → Int32) (g : Nat → Nat → Nat) (k i : Nat) : Int64 := sumL (fun s => (fp (g i s) - fp i).toInt64) k
def BV (fp : Nat → Int32) (g : Nat → Nat → Nat) (k : Nat) : Nat → Nat → Int64
  | 0, i => (fp i).toInt64
  | t + 1, i => if (fp i).toInt64 * lN (k ^ (t + 1)) < sumL (fun s => BV fp g k t (g i s)) k then sumL (fun s => BV fp g k t (g i s)) k else (fp i).toInt64 * lN (k ^ (t + 1))
def GV (fp : Nat → Int32) (g : Nat → Nat → Nat) (k : Nat) : Nat → Nat → Int64
  | 0, i => (fp i).toInt64
  | t + 1, i => sumL (fun s => BV fp g k t (g i s)) k
def PWI (f f0 : Nat → Int64) (q : Nat) : Prop := ∀ j, j < q → f j = f0 j
theorem PWI_0 {f f0 : Nat → Int64} : PWI f f0 0 := fun j h => by omega
theorem PWI_s {f f0 : Nat → Int64} {q : Nat} {x : Int64} (h : PWI f f0 q) (hx : x = f0 q) : PWI (vp_updL f q x) f0 (q + 1) := by
  intro j hj
  by_cases e : j = q
  · subst e; rw [pk_uLs, hx]
  · rw [pk_uLn e]; exact h j (by omega)
def PWJ (f f0 : Nat → Int32) (q : Nat) : Prop := ∀ j, j < q → f j = f0 j
theorem PWJ_0 {f f0 : Nat → Int32} : PWJ f f0 0 := fun j h => by omega
theorem PWJ_s {f f0 : Nat → Int32} {q : Nat} {x : Int32} (h : PWJ f f0 q) (hx : x = f0 q) : PWJ (upd f q x) f0 (q + 1) := by
  intro j hj
  by_cases e : j = q
  · subst e; rw [pk_us, hx]
  · rw [pk_un e]; exact h j (by omega)
/-- going on: the sum over slots -/
theorem sumL_s {f : Nat → Int64} {q : Nat} : sumL f q + f q = sumL f (q + 1) := rfl
-- ===== lumps =====
def WC (g : Nat → Nat → Nat) (k : Nat) (col : Nat → Nat) (n i x : Nat) : Nat := sm (fun q => if col q = x then cnt (g i) q k else 0) n
theorem WC_le {g : Nat → Nat → Nat} {k : Nat} {col : Nat → Nat} {n i x : Nat} : WC g k col n i x ≤ k := by
  refine Nat.le_trans (sm_mono (f' := fun q => cnt (g i) q k) (fun q _ => ?_)) sm_cnt_le
  split
  · exact Nat.le_refl _
  · exact Nat.zero_le _
