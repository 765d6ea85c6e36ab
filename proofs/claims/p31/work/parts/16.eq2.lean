/-! ===== class = reference: sets ===== -/
theorem tb_d {X i : Nat} : (X / 2 ^ i % 2 = 1) ↔ X.testBit i = true := by
  rw [Nat.testBit_eq_decide_div_mod_eq, decide_eq_true_iff]
theorem tb_if {c : Prop} [Decidable c] {m q : Nat} : (if c then 2 ^ m else 0 : Nat).testBit q = true ↔ c ∧ m = q := by
  by_cases z : c
  · rw [if_pos z, Nat.testBit_two_pow, decide_eq_true_iff]
    exact ⟨fun h => ⟨z, h⟩, fun h => h.2⟩
  · rw [if_neg z, Nat.zero_testBit]
    exact Iff.intro (fun h => Bool.noConfusion h) (fun h => absurd h.1 z)
theorem tb_or {a b q : Nat} : (a ||| b).testBit q = true ↔ a.testBit q = true ∨ b.testBit q = true := by
  rw [Nat.testBit_or, Bool.or_eq_true]
theorem img_tb {g : Nat → Nat → Nat} {s X q : Nat} : ∀ n, (img g s X n).testBit q = true ↔ ∃ i, i < n ∧ X.testBit i = true ∧ g i s = q := by
  intro n
  induction n with
  | zero => exact ⟨fun h => (by rw [show img g s X 0 = 0 from rfl, Nat.zero_testBit] at h; exact nomatch h), fun ⟨i, h, _⟩ => absurd h (Nat.not_lt_zero i)⟩
  | succ n ih =>
    show (img g s X n ||| (if X / 2 ^ n % 2 = 1 then 2 ^ (g n s) else 0)).testBit q = true ↔ _
    rw [tb_or, ih, tb_if, tb_d]
    constructor
    · rintro (⟨i, h1, h2, h3⟩ | ⟨h2, h3⟩)
      · exact ⟨i, by omega, h2, h3⟩
      · exact ⟨n, by omega, h2, h3⟩
    · rintro ⟨i, h1, h2, h3⟩
      by_cases e : i = n
      · subst e; exact Or.inr ⟨h2, h3⟩
      · exact Or.inl ⟨i, by omega, h2, h3⟩
theorem ahd_tb {g : Nat → Nat → Nat} {n X q : Nat} : ∀ k, (ahd g n X k).testBit q = true ↔ ∃ s, s < k ∧ ∃ i, i < n ∧ X.testBit i = true ∧ g i s = q := by
  intro k
  induction k with
  | zero => exact ⟨fun h => (by rw [show ahd g n X 0 = 0 from rfl, Nat.zero_testBit] at h; exact nomatch h), fun ⟨i, h, _⟩ => absurd h (Nat.not_lt_zero i)⟩
  | succ k ih =>
    show (ahd g n X k ||| img g k X n).testBit q = true ↔ _
    rw [tb_or, ih, img_tb]
    constructor
    · rintro (⟨s, h1, h2⟩ | h2)
      · exact ⟨s, by omega, h2⟩
      · exact ⟨k, by omega, h2⟩
    · rintro ⟨s, h1, h2⟩
      by_cases e : s = k
      · subst e; exact Or.inr h2
      · exact Or.inl ⟨s, by omega, h2⟩
theorem cnt_pos {f : Nat → Nat} {j : Nat} : ∀ k, 0 < cnt f j k ↔ ∃ s, s < k ∧ f s = j := by
  intro k
  induction k with
  | zero => exact ⟨fun h => absurd h (Nat.lt_irrefl 0), fun ⟨s, h, _⟩ => absurd h (Nat.not_lt_zero s)⟩
  | succ k ih =>
    show 0 < cnt f j k + (if f k = j then 1 else 0) ↔ _
    constructor
    · intro h
      by_cases z : f k = j
      · exact ⟨k, by omega, z⟩
      · rw [if_neg z] at h
        obtain ⟨s, h1, h2⟩ := ih.mp h
        exact ⟨s, by omega, h2⟩
    · rintro ⟨s, h1, h2⟩
      by_cases e : s = k
      · subst e; rw [if_pos h2]; omega
      · have := ih.mpr ⟨s, by omega, h2⟩
        omega
theorem so2_tb {g : Nat → Nat → Nat} {k X B i q : Nat} : ∀ j, (so2 g k X B i j).testBit q = true ↔ B.testBit q = true ∨ (q < j ∧ X.testBit i = true ∧ 0 < cnt (g i) q k) := by
  intro j
  induction j with
  | zero => exact ⟨Or.inl, fun h => h.elim id (fun h => absurd h.1 (Nat.not_lt_zero q))⟩
  | succ j ih =>
    show (so2 g k X B i j ||| (if X / 2 ^ i % 2 = 1 ∧ 0 < cnt (g i) j k then 2 ^ j else 0)).testBit q = true ↔ _
    rw [tb_or, ih, tb_if, tb_d]
    constructor
    · rintro ((h | ⟨h1, h2⟩) | ⟨h2, h3⟩)
      · exact Or.inl h
      · exact Or.inr ⟨by omega, h2⟩
      · subst h3; exact Or.inr ⟨by omega, h2⟩
    · rintro (h | ⟨h1, h2⟩)
      · exact Or.inl (Or.inl h)
      · by_cases e : q = j
        · subst e; exact Or.inr ⟨h2, rfl⟩
        · exact Or.inl (Or.inr ⟨by omega, h2⟩)
theorem soO_tb {g : Nat → Nat → Nat} {n k X q : Nat} : ∀ m, (soO g n k X m).testBit q = true ↔ ∃ i, i < m ∧ q < n ∧ X.testBit i = true ∧ 0 < cnt (g i) q k := by
  intro m
  induction m with
  | zero => exact ⟨fun h => (by rw [show soO g n k X 0 = 0 from rfl, Nat.zero_testBit] at h; exact nomatch h), fun ⟨i, h, _⟩ => absurd h (Nat.not_lt_zero i)⟩
  | succ m ih =>
    show (so2 g k X (soO g n k X m) m n).testBit q = true ↔ _
    rw [so2_tb, ih]
    constructor
    · rintro (⟨i, h1, h2⟩ | h2)
      · exact ⟨i, by omega, h2⟩
      · exact ⟨m, by omega, h2⟩
    · rintro ⟨i, h1, h2⟩
      by_cases e : i = m
      · subst e; exact Or.inr h2
      · exact Or.inl ⟨i, by omega, h2⟩
theorem soO_ahd {g : Nat → Nat → Nat} {n k X : Nat} (hg : ∀ i j, i < n → j < k → g i j < n) : soO g n k X n = ahd g n X k := by
  apply Nat.eq_of_testBit_eq
  intro q
  apply Bool.eq_iff_iff.mpr
  rw [soO_tb, ahd_tb]
  constructor
  · rintro ⟨i, h1, h2, h3, h4⟩
    obtain ⟨s, h5, h6⟩ := (cnt_pos k).mp h4
    exact ⟨s, h5, i, h1, h3, h6⟩
  · rintro ⟨s, h5, i, h1, h3, h6⟩
    exact ⟨i, h1, h6 ▸ hg i s h1 h5, h3, (cnt_pos k).mpr ⟨s, h5, h6⟩⟩
theorem rcA_rch {g : Nat → Nat → Nat} {n k i : Nat} (hg : ∀ i j, i < n → j < k → g i j < n) : ∀ q, rcA g n k i q = rch g n k i q := by
  intro q
  induction q with
  | zero => rfl
  | succ q ih =>
    show rcA g n k i q ||| soO g n k (rcA g n k i q) n = rch g n k i q ||| ahd g n (rch g n k i q) k
    rw [ih, soO_ahd hg]
