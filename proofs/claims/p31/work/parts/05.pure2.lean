-- ===== booleans =====
theorem bT {b : Bool} (h : b = true) : nI 1 = bI b := by subst h; rfl
theorem bF {b : Bool} (h : b = false) : nI 0 = bI b := by subst h; rfl
theorem inR_t {i a b : Nat} (h1 : a ≤ i) (h2 : i ≤ b) (hb : b < 2 ^ 31) : inR (nI i) (nI a) (nI b) = true := by
  have e1 : ¬ nI i < nI a := nI_nlt h1 (by omega)
  have e2 : ¬ nI b < nI i := nI_nlt h2 hb
  simp [inR, e1, e2]
theorem inR_of {x : Int32} {b : Nat} (hb : b < 2 ^ 31) (h : inR x (nI 0) (nI b) = true) : ∃ i, i ≤ b ∧ x = nI i := by
  simp only [inR, Bool.and_eq_true, Bool.not_eq_true', decide_eq_false_iff_not] at h
  have h0 : ¬ x < 0 := by rw [← nI_0]; exact h.1
  obtain ⟨j, hj, rfl⟩ := nI_of h0
  exact ⟨j, Nat.le_of_not_lt (fun q => h.2 (nI_lt q hj)), rfl⟩
theorem lpSt {P : Nat → Prop} (h : ∀ i, (∀ j, j < i → P j) → P i) : ∀ i, P i := fun i => Nat.strongRecOn i (fun n ih => h n ih)
/-- all below n -/
def allB (f : Nat → Bool) : Nat → Bool
  | 0 => true
  | i + 1 => f i && allB f i
theorem allB_iff {f : Nat → Bool} {n : Nat} : allB f n = true ↔ ∀ i, i < n → f i = true := by
  induction n with
  | zero => exact ⟨fun _ i h => by omega, fun _ => rfl⟩
  | succ n ih =>
    unfold allB
    rw [Bool.and_eq_true, ih]
    exact ⟨fun h i hi => by
      by_cases e : i = n
      · rw [e]; exact h.1
      · exact h.2 i (by omega), fun h => ⟨h n (by omega), fun i hi => h i (by omega)⟩⟩
def nB (f : Nat → Bool) : Nat → Nat
  | 0 => 0
  | i + 1 => nB f i + (if f i = true then 1 else 0)
theorem nB_le (f : Nat → Bool) (n : Nat) : nB f n ≤ n := by
  induction n with
  | zero => exact Nat.le_refl 0
  | succ n ih => unfold nB; split <;> omega
-- ===== distances, mixing =====
theorem dst_le {a b : Nat → Nat} {n : Nat} : dst a b n ≤ sm a n := by
  unfold dst
  induction n with
  | zero => exact Nat.le_refl 0
  | succ n ih => unfold sm; omega
theorem dst_s {a b : Nat → Nat} {q : Nat} {c : Nat} (h : a q - b q = c) : dst a b q + c = dst a b (q + 1) := by subst h; rfl
def mixC (g : Nat → Nat → Nat) (n k th t one other : Nat) : Bool := decide (1000 * dst (PL g n k one t) (PL g n k other t) n ≤ th * k ^ t)
def mixB (g : Nat → Nat → Nat) (n k th t : Nat) : Bool := allB (fun one => allB (fun other => mixC g n k th t one other) one) n
theorem mx_f {f : Nat → Bool} {o : Nat} {X : Bool} (h : (allB f o && X) = false ∨ f o = false) : nI 0 = bI (allB f (o + 1) && X) := by
  apply bF
  show (f o && allB f o && X) = false
  rcases h with h | h
  · rw [Bool.and_assoc, h, Bool.and_false]
  · rw [h]; rfl
theorem mx_t {f : Nat → Bool} {o : Nat} {X : Bool} (h : (allB f o && X) = true) (h2 : f o = true) : nI 1 = bI (allB f (o + 1) && X) := by
  apply bT
  show (f o && allB f o && X) = true
  rw [Bool.and_assoc, h, h2]; rfl
theorem lle {a b : Nat} (ha : a < 2 ^ 63) (hb : b < 2 ^ 63) (h : lN a ≤ lN b) : a ≤ b := (pk_lLE ha hb).mp h
theorem lnle {a b : Nat} (ha : a < 2 ^ 63) (hb : b < 2 ^ 63) (h : ¬ lN a ≤ lN b) : b < a := Nat.not_le.mp (fun q => h ((pk_lLE ha hb).mpr q))
theorem llt {a b : Nat} (ha : a < 2 ^ 63) (hb : b < 2 ^ 63) (h : lN a < lN b) : a < b := (pk_lLT ha hb).mp h
theorem lnlt {a b : Nat} (ha : a < 2 ^ 63) (hb : b < 2 ^ 63) (h : ¬ lN a < lN b) : b ≤ a := Nat.not_lt.mp (fun q => h ((pk_lLT ha hb).mpr q))
def dI (i : Nat) : Int32 := nI 12 - nI i
theorem dI_s : ∀ i, i < 13 → dI i + (-1) = dI (i + 1) := by decide +kernel
theorem dI_n : ∀ i, i < 13 → dI i = nI (12 - i) := by decide +kernel
theorem dI_lt : ∀ i, i < 13 → ¬ dI i < 0 := by decide +kernel
theorem dI_13 : dI 13 < 0 := by decide +kernel
def fnd (P : Nat → Bool) : Nat → Int32
  | 0 => -1
  | i + 1 => if P (12 - i) = true then nI (12 - i) else fnd P i
-- ===== sets as numbers =====
def img (g : Nat → Nat → Nat) (s X : Nat) : Nat → Nat
  | 0 => 0
  | i + 1 => img g s X i ||| (if X / 2 ^ i % 2 = 1 then 2 ^ (g i s) else 0)
theorem pow64 {i n : Nat} (h : i < n) (hn : n ≤ 6) : 2 ^ i < 64 := Nat.lt_of_lt_of_le (Nat.pow_lt_pow_right (by decide) h) (Nat.le_trans (Nat.pow_le_pow_right (by decide) hn) (by decide))
theorem or64 {a b : Nat} (ha : a < 64) (hb : b < 64) : a ||| b < 64 := Nat.or_lt_two_pow (n := 6) ha hb
theorem img_lt {g : Nat → Nat → Nat} {s X n : Nat} (hg : ∀ i, i < n → g i s < n) (hn : n ≤ 6) : ∀ q, q ≤ n → img g s X q < 64 := by
  intro q
  induction q with
  | zero => intro _; show 0 < 64; omega
  | succ q ih =>
    intro hq
    refine or64 (ih (by omega)) ?_
    split
    · exact pow64 (hg q (by omega)) hn
    · omega
def ahd (g : Nat → Nat → Nat) (n X : Nat) : Nat → Nat
  | 0 => 0
  | s + 1 => ahd g n X s ||| img g s X n
theorem ahd_lt {g : Nat → Nat → Nat} {n k X : Nat} (hg : ∀ i j, i < n → j < k → g i j < n) (hn : n ≤ 6) : ∀ s, s ≤ k → ahd g n X s < 64 := by
  intro s
  induction s with
  | zero => intro _; show 0 < 64; omega
  | succ s ih => intro hs; exact or64 (ih (by omega)) (img_lt (fun i hi => hg i s hi (by omega)) hn n (Nat.le_refl n))
def rch (g : Nat → Nat → Nat) (n k i : Nat) : Nat → Nat
  | 0 => 2 ^ i
  | q + 1 => rch g n k i q ||| ahd g n (rch g n k i q) k
theorem rch_lt {g : Nat → Nat → Nat} {n k i : Nat} (hg : ∀ i j, i < n → j < k → g i j < n) (hn : n ≤ 6) (hi : i < n) (q : Nat) : rch g n k i q < 64 := by
  induction q with
  | zero => exact pow64 hi hn
  | succ q ih => exact or64 ih (ahd_lt hg hn k (Nat.le_refl k))
def isCl (g : Nat → Nat → Nat) (n k i : Nat) : Bool := allB (fun q => decide (rch g n k i n / 2 ^ q % 2 = 0) || decide (rch g n k q n / 2 ^ i % 2 = 1)) n
def nCl (g : Nat → Nat → Nat) (n k q : Nat) : Nat := nB (fun q => isCl g n k q && decide (rch g n k q n &&& (2 ^ q - 1) = 0)) q
def stp (g : Nat → Nat → Nat) (n k i : Nat) : Nat → Nat
  | 0 => 2 ^ i
  | q + 1 => ahd g n (stp g n k i q) k
theorem stp_lt {g : Nat → Nat → Nat} {n k i : Nat} (hg : ∀ i j, i < n → j < k → g i j < n) (hn : n ≤ 6) (hi : i < n) (q : Nat) : stp g n k i q < 64 := by
  cases q with
  | zero => exact pow64 hi hn
  | succ q => exact ahd_lt hg hn k (Nat.le_refl k)
def prd (g : Nat → Nat → Nat) (n k i : Nat) : Nat → Nat
  | 0 => 0
  | q + 1 => if stp g n k i (q + 1) / 2 ^ i % 2 = 1 then Nat.gcd (q + 1) (prd g n k i q) else prd g n k i q
theorem prd_le {g : Nat → Nat → Nat} {n k i : Nat} (q : Nat) : prd g n k i q ≤ q := by
  induction q with
  | zero => exact Nat.le_refl 0
  | succ q ih =>
    unfold prd
    split
    · exact Nat.gcd_le_left _ (by omega)
    · omega
theorem gcd_stp {x y : Nat} : Nat.gcd y (x % y) = Nat.gcd x y := by
  rw [Nat.gcd_comm y, ← Nat.gcd_rec y x, Nat.gcd_comm]
-- ===== hits of the reference =====
def HV (g : Nat → Nat → Nat) (n k f b : Nat) : Nat → Nat → Nat
  | 0, c => if c = f then 1 else 0
  | t + 1, c => sm (fun d => (if d = b then 0 else HV g n k f b t d) * cnt (g d) c k) n
def HS (g : Nat → Nat → Nat) (n k f b T : Nat) : Nat → Nat
  | 0 => 0
  | u + 1 => HS g n k f b T u + HV g n k f b u b * k ^ (T - u)
theorem HV_e {g : Nat → Nat → Nat} {k n f b t : Nat} {fN : Nat → Int64} (hk : 0 < k) (h : AI (fun d => if d = b then 0 else HV g n k f b t d) g k n (n * k) fN) : ∀ c, c < n → fN c = lN (HV g n k f b (t + 1) c) := by
  intro c hc
  rw [h c hc, Nat.mul_comm, acc_end hk n]; rfl
-- ===== pairs =====
/-- chains over N states whose slots lead anywhere: sums are no more than all words -/
theorem sm_cnt_le {f : Nat → Nat} {n k : Nat} : sm (fun b => cnt f b k) n ≤ k := by
  induction k with
  | zero => exact Nat.le_of_eq sm_zero
  | succ k ih =>
    unfold cnt
    rw [sm_add]
    have e : sm (fun b => if f k = b then 1 else 0) n ≤ 1 := by
      rw [sm_congr (f' := fun i => if i = f k then 1 else 0) (fun i _ => by simp only [eq_comm])]
      by_cases h : f k < n
      · rw [sm_one h]; omega
      · rw [sm_congr (f' := fun _ => 0) (fun i hi => if_neg (by omega)), sm_zero]; omega
    omega
theorem sm_mono {f f' : Nat → Nat} {n : Nat} (h : ∀ i, i < n → f i ≤ f' i) : sm f n ≤ sm f' n := by
  induction n with
  | zero => exact Nat.le_refl 0
  | succ n ih => unfold sm; have := ih (fun i hi => h i (by omega)); have := h n (by omega); omega
theorem PL_sum_le {g : Nat → Nat → Nat} {n k f : Nat} (t : Nat) : sm (PL g n k f t) n ≤ k ^ t := by
  induction t with
  | zero =>
    by_cases h : f < n
    · exact Nat.le_of_eq (sm_one h)
    · show sm (fun b => if b = f then 1 else 0) n ≤ 1
      rw [sm_congr (f' := fun _ => 0) (fun i hi => if_neg (by omega)), sm_zero]; omega
  | succ t ih =>
    show sm (fun b => sm (fun c => PL g n k f t c * cnt (g c) b k) n) n ≤ k ^ t * k
    rw [sm_swap]
    refine Nat.le_trans (sm_mono (f' := fun c => PL g n k f t c * k) (fun c hc => ?_)) ?_
    · rw [sm_mul]; exact Nat.mul_le_mul (Nat.le_refl _) sm_cnt_le
    · rw [sm_mulr]; exact Nat.mul_le_mul ih (Nat.le_refl k)
theorem PL_le' {g : Nat → Nat → Nat} {n k f t b : Nat} (hb : b < n) : PL g n k f t b ≤ k ^ t := Nat.le_trans (sm_le (f := PL g n k f t) hb) (PL_sum_le t)
/-- rows of a spreading over N states: behind row Y and s slots -/
def RI (v : Nat → Nat) (G : Nat → Nat → Nat) (k N Y s : Nat) (fN : Nat → Int64) : Prop := ∀ X, X < N → fN X = lN (sm (fun Y => v Y * cnt (G Y) X k) Y + v Y * cnt (G Y) X s)
theorem RI_0 {v : Nat → Nat} {G : Nat → Nat → Nat} {k N : Nat} {fN : Nat → Int64} (h : ∀ b, b < N → fN b = lN 0) : RI v G k N 0 0 fN := fun X hX => by rw [h X hX]; rfl
theorem RI_s {v : Nat → Nat} {G : Nat → Nat → Nat} {k N Y s : Nat} {fN : Nat → Int64} {x : Int64} (h : RI v G k N Y s fN) (hx : x = lN (v Y)) (hg : G Y s < N) : RI v G k N Y (s + 1) (vp_updL fN (G Y s) (fN (G Y s) + x)) := by
  intro X hX
  by_cases e : X = G Y s
  · subst e; rw [pk_uLs, h _ hX, hx, lN_add]
    show _ = lN (_ + v Y * (cnt (G Y) (G Y s) s + if G Y s = G Y s then 1 else 0))
    rw [if_pos rfl, Nat.mul_add, Nat.mul_one, Nat.add_assoc]
  · rw [pk_uLn e, h _ hX]
    show _ = lN (_ + v Y * (cnt (G Y) X s + if G Y s = X then 1 else 0))
    rw [if_neg (fun z => e z.symm), Nat.add_zero]
theorem RI_k {v : Nat → Nat} {G : Nat → Nat → Nat} {k N Y s : Nat} {fN : Nat → Int64} (h : RI v G k N Y s fN) (hs : s = k ∨ v Y = 0) : RI v G k N (Y + 1) 0 fN := by
  intro X hX
  rw [h X hX]
  show lN (sm (fun Y => v Y * cnt (G Y) X k) Y + v Y * cnt (G Y) X s) = lN (sm (fun Y => v Y * cnt (G Y) X k) Y + v Y * cnt (G Y) X k + v (Y + 1) * 0)
  rcases hs with e | e
  · rw [e, Nat.mul_zero, Nat.add_zero]
  · rw [e, Nat.zero_mul, Nat.zero_mul, Nat.mul_zero, Nat.add_zero]
theorem RI_e {G : Nat → Nat → Nat} {k N f t : Nat} {fN : Nat → Int64} (h : RI (PL G N k f t) G k N N 0 fN) : ∀ X, X < N → fN X = lN (PL G N k f (t + 1) X) := fun X hX => by rw [h X hX, show cnt (G N) X 0 = 0 from rfl, Nat.mul_zero, Nat.add_zero]; rfl
/-- where a pair goes: 36 once both are in one state -/
def pr (g : Nat → Nat → Nat) (x s : Nat) : Nat := if g (x / 6) s = g (x % 6) s then 36 else 6 * g (x / 6) s + g (x % 6) s
theorem pr_sup {g : Nat → Nat → Nat} {n k f : Nat} (hg : ∀ i j, i < n → j < k → g i j < n) (hn : n ≤ 6) (hf : f = 36 ∨ f / 6 < n ∧ f % 6 < n) : ∀ t x, x < 36 → PL (pr g) 36 k f t x ≠ 0 → x / 6 < n ∧ x % 6 < n := by
  intro t
  induction t with
  | zero =>
    intro x hx h
    have e : x = f := by
      by_cases e : x = f
      · exact e
      · exact absurd (show PL (pr g) 36 k f 0 x = 0 from if_neg e) h
    subst e
    rcases hf with q | q
    · omega
    · exact q
  | succ t ih =>
    intro x hx h
    have h1 : ∃ c, c < 36 ∧ PL (pr g) 36 k f t c ≠ 0 ∧ cnt (pr g c) x k ≠ 0 := by
      apply Classical.byContradiction
      intro hn
      apply h
      show sm (fun c => PL (pr g) 36 k f t c * cnt (pr g c) x k) 36 = 0
      rw [sm_congr (f' := fun _ => 0) (fun c hc => ?_), sm_zero]
      by_cases z : PL (pr g) 36 k f t c = 0
      · rw [z, Nat.zero_mul]
      · by_cases w : cnt (pr g c) x k = 0
        · rw [w, Nat.mul_zero]
        · exact absurd ⟨c, hc, z, w⟩ hn
    obtain ⟨c, hc, z, w⟩ := h1
    obtain ⟨ha, hb⟩ := ih c hc z
    have h2 : ∀ q, q ≤ k → cnt (pr g c) x q ≠ 0 → ∃ s, s < k ∧ pr g c s = x := by
      intro q
      induction q with
      | zero => intro _ h; exact absurd rfl h
      | succ q ihq =>
        intro hq h
        by_cases e : pr g c q = x
        · exact ⟨q, by omega, e⟩
        · exact ihq (by omega) (fun e2 => h (by show cnt (pr g c) x q + (if pr g c q = x then 1 else 0) = 0; rw [e2, if_neg e]))
    obtain ⟨s, hs, e⟩ := h2 k (Nat.le_refl k) w
    have g1 := hg _ _ ha hs
    have g2 := hg _ _ hb hs
    unfold pr at e
    split at e
    · omega
    · rw [← e]; omega
