theorem lpos {v : Nat} (h : ¬ lN v ≤ lN 0) : v ≠ 0 := fun z => h (by rw [z]; decide)
theorem lzer {v : Nat} (hv : v < 2 ^ 63) (h : lN v ≤ lN 0) : v = 0 := by
  have := lle hv (by decide) h
  omega
/-- where a pair is at first -/
def prs (f b : Nat) : Nat := if f = b then 36 else 6 * f + b
theorem prs_ok {n f b : Nat} (hn : n ≤ 6) (hf : f < n) (hb : b < n) : prs f b = 36 ∨ prs f b / 6 < n ∧ prs f b % 6 < n := by
  unfold prs
  split
  · exact Or.inl rfl
  · right; omega
theorem prs_n {g : Nat → Nat → Nat} {k n f b : Nat} {fN : Nat → Int64} (hn : n ≤ 6) (hf : f < n) (hb : b < n) (h : f ≠ b) (hq : ∀ j, j < 64 → fN j = lN (if nI j = nI (6 * f + b) then 1 else 0)) : ∀ X, X < 36 → fN X = lN (PL (pr g) 36 k (prs f b) 0 X) := by
  intro X hX
  rw [hq X (by omega)]
  show _ = lN (if X = prs f b then 1 else 0)
  rw [show prs f b = 6 * f + b from if_neg h]
  simp only [nI_eq (show X < 2 ^ 31 by omega) (show 6 * f + b < 2 ^ 31 by omega)]
theorem nI_nm1 : ∀ j, j < 64 → ¬ nI j = (-1) := by decide +kernel
theorem prs_e {g : Nat → Nat → Nat} {k f b : Nat} {fN : Nat → Int64} (h : f = b) (hq : ∀ j, j < 64 → fN j = lN (if nI j = (-1) then 1 else 0)) : ∀ X, X < 36 → fN X = lN (PL (pr g) 36 k (prs f b) 0 X) := by
  intro X hX
  rw [hq X (by omega), if_neg (nI_nm1 X (by omega))]
  show _ = lN (if X = prs f b then 1 else 0)
  rw [show prs f b = 36 from if_pos h, if_neg (by omega)]
theorem RP_n {v : Nat → Nat} {g : Nat → Nat → Nat} {k Y w : Nat} {fN : Nat → Int64} {x : Int64} (h : RI v (pr g) k 36 Y w fN) (hx : x = lN (v Y)) (hne : g (Y / 6) w ≠ g (Y % 6) w) (ha : g (Y / 6) w < 6) (hb : g (Y % 6) w < 6) : RI v (pr g) k 36 Y (w + 1) (vp_updL fN (6 * g (Y / 6) w + g (Y % 6) w) (fN (6 * g (Y / 6) w + g (Y % 6) w) + x)) := by
  have e : pr g Y w = 6 * g (Y / 6) w + g (Y % 6) w := if_neg hne
  rw [← e]
  exact RI_s h hx (by rw [e]; omega)
theorem RP_e {v : Nat → Nat} {g : Nat → Nat → Nat} {k Y w : Nat} {fN : Nat → Int64} (h : RI v (pr g) k 36 Y w fN) (heq : g (Y / 6) w = g (Y % 6) w) {j : Nat} : RI v (pr g) k 36 Y (w + 1) (vp_updL fN j (fN j + lN 0)) := by
  have e : pr g Y w = 36 := if_pos heq
  intro X hX
  have e2 : vp_updL fN j (fN j + lN 0) X = fN X := by
    by_cases q : X = j
    · subst q; rw [pk_uLs]; exact Int64.add_zero _
    · rw [pk_uLn q]
  rw [e2, h X hX]
  show _ = lN (_ + v Y * (cnt (pr g Y) X w + if pr g Y w = X then 1 else 0))
  rw [e, if_neg (by omega), Nat.add_zero]
def ig (g : Nat → Nat → Nat) (n Y s : Nat) : Nat := img g s Y n
theorem ig_lt {g : Nat → Nat → Nat} {n k Y s : Nat} (hg : ∀ i j, i < n → j < k → g i j < n) (hn : n ≤ 6) (hs : s < k) : ig g n Y s < 64 := img_lt (fun i hi => hg i s hi hs) hn n (Nat.le_refl n)
theorem ig_0 {G : Nat → Nat → Nat} {k N f : Nat} {fN : Nat → Int64} (hN : N ≤ 64) (hf : f < 2 ^ 31) (hq : ∀ j, j < 64 → fN j = lN (if nI j = nI f then 1 else 0)) : ∀ X, X < N → fN X = lN (PL G N k f 0 X) := by
  intro X hX
  rw [hq X (by omega)]
  show _ = lN (if X = f then 1 else 0)
  simp only [nI_eq (show X < 2 ^ 31 by omega) hf]
theorem hv_0 {g : Nat → Nat → Nat} {n k f b : Nat} {fN : Nat → Int64} (hn : n ≤ 6) (hf : f < n) (hq : ∀ j, j < 64 → fN j = lN (if nI j = nI f then 1 else 0)) : ∀ c, c < n → fN c = lN (HV g n k f b 0 c) := by
  intro c hc
  rw [hq c (by omega)]
  show _ = lN (if c = f then 1 else 0)
  simp only [nI_eq (show c < 2 ^ 31 by omega) (show f < 2 ^ 31 by omega)]
theorem hv_z {v : Nat → Nat} {b n : Nat} {fN fT : Nat → Int64} (hn : n ≤ 6) (h : ∀ c, c < n → fN c = lN (v c)) (hq : ∀ j, j < 64 → fT j = vp_updL fN b (lN 0) j) : ∀ c, c < n → fT c = lN (if c = b then 0 else v c) := by
  intro c hc
  rw [hq c (by omega)]
  by_cases e : c = b
  · subst e; rw [pk_uLs, if_pos rfl]
  · rw [pk_uLn e, if_neg e]; exact h c hc
theorem nB_t {f : Nat → Bool} {i : Nat} (h : f i = true) : nB f i + 1 = nB f (i + 1) := by
  show nB f i + 1 = nB f i + (if f i = true then 1 else 0)
  rw [if_pos h]
theorem nB_f {f : Nat → Bool} {i : Nat} (h : f i = false) : nB f i = nB f (i + 1) := by
  show nB f i = nB f i + (if f i = true then 1 else 0)
  rw [h]; rfl
theorem and_f1 {a b : Bool} (h : a = false) : (a && b) = false := by rw [h]; rfl
theorem and_f2 {a : Bool} {P : Prop} [Decidable P] (h : ¬ P) : (a && decide P) = false := by rw [decide_eq_false h, Bool.and_false]
theorem and_tt {a : Bool} {P : Prop} [Decidable P] (h : a = true) (h2 : P) : (a && decide P) = true := by rw [h, decide_eq_true h2]; rfl
