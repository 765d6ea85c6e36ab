/-! ===== reach: behind n - 1 steps nothing is new ===== -/
/-- b is reached from i in t steps -/
def Wk (g : Nat → Nat → Nat) (k i : Nat) : Nat → Nat → Prop
  | 0, b => b = i
  | t + 1, b => ∃ c, Wk g k i t c ∧ ∃ s, s < k ∧ g c s = b
theorem Wk_lt {g : Nat → Nat → Nat} {n k i : Nat} (hg : ∀ i j, i < n → j < k → g i j < n) (hi : i < n) : ∀ t b, Wk g k i t b → b < n := by
  intro t
  induction t with
  | zero => intro b h; exact (show b = i from h) ▸ hi
  | succ t ih =>
    rintro b ⟨c, h, s, hs, e⟩
    exact e ▸ hg c s (ih c h) hs
theorem Wk_trans {g : Nat → Nat → Nat} {k i u : Nat} {a : Nat} (h : Wk g k i a u) : ∀ b v, Wk g k u b v → Wk g k i (a + b) v := by
  intro b
  induction b with
  | zero => intro v hv; exact (show v = u from hv) ▸ h
  | succ b ih =>
    rintro v ⟨c, h1, h2⟩
    exact ⟨c, ih c h1, h2⟩
theorem Wk_one {g : Nat → Nat → Nat} {k u s v : Nat} (hs : s < k) (e : g u s = v) : Wk g k u 1 v := ⟨u, rfl, s, hs, e⟩
theorem stp_tb {g : Nat → Nat → Nat} {n k i : Nat} (hg : ∀ i j, i < n → j < k → g i j < n) (hi : i < n) : ∀ t b, (stp g n k i t).testBit b = true ↔ Wk g k i t b := by
  intro t
  induction t with
  | zero =>
    intro b
    show (2 ^ i : Nat).testBit b = true ↔ b = i
    rw [Nat.testBit_two_pow, decide_eq_true_iff]
    exact ⟨Eq.symm, Eq.symm⟩
  | succ t ih =>
    intro b
    show (ahd g n (stp g n k i t) k).testBit b = true ↔ ∃ c, Wk g k i t c ∧ ∃ s, s < k ∧ g c s = b
    rw [ahd_tb]
    constructor
    · rintro ⟨s, hs, c, hc, h, e⟩
      exact ⟨c, (ih c).mp h, s, hs, e⟩
    · rintro ⟨c, h, s, hs, e⟩
      exact ⟨s, hs, c, Wk_lt hg hi t c h, (ih c).mpr h, e⟩
theorem rch_tb {g : Nat → Nat → Nat} {n k i : Nat} (hg : ∀ i j, i < n → j < k → g i j < n) (hi : i < n) : ∀ q b, (rch g n k i q).testBit b = true ↔ ∃ t, t ≤ q ∧ Wk g k i t b := by
  intro q
  induction q with
  | zero =>
    intro b
    show (2 ^ i : Nat).testBit b = true ↔ _
    rw [Nat.testBit_two_pow, decide_eq_true_iff]
    constructor
    · intro e; exact ⟨0, Nat.le_refl 0, e.symm⟩
    · rintro ⟨t, ht, h⟩
      have : t = 0 := by omega
      subst this
      exact (show b = i from h).symm
  | succ q ih =>
    intro b
    show (rch g n k i q ||| ahd g n (rch g n k i q) k).testBit b = true ↔ _
    rw [tb_or, ih, ahd_tb]
    constructor
    · rintro (⟨t, h1, h2⟩ | ⟨s, hs, c, hc, h, e⟩)
      · exact ⟨t, by omega, h2⟩
      · obtain ⟨t, h1, h2⟩ := (ih c).mp h
        exact ⟨t + 1, by omega, c, h2, s, hs, e⟩
    · rintro ⟨t, h1, h2⟩
      cases t with
      | zero => exact Or.inl ⟨0, Nat.zero_le q, h2⟩
      | succ t =>
        obtain ⟨c, h, s, hs, e⟩ := h2
        exact Or.inr ⟨s, hs, c, Wk_lt hg hi t c h, (ih c).mpr ⟨t, by omega, h⟩, e⟩
theorem bits_lt : ∀ A, A < 64 → ∀ B, B < 64 → A ||| B = B → A ≠ B → bitsN A 6 < bitsN B 6 := by decide +kernel
theorem bits_n : ∀ n, n < 7 → ∀ X, X < 64 → X < 2 ^ n → bitsN X 6 ≤ n := by decide +kernel
theorem bits_1 : ∀ i, i < 6 → 1 ≤ bitsN (2 ^ i) 6 := by decide +kernel
theorem rch_2n {g : Nat → Nat → Nat} {n k i : Nat} (hg : ∀ i j, i < n → j < k → g i j < n) (hi : i < n) (q : Nat) : rch g n k i q < 2 ^ n := by
  refine Nat.lt_pow_two_of_testBit _ (fun b hb => ?_)
  cases e : (rch g n k i q).testBit b with
  | false => rfl
  | true =>
    obtain ⟨t, _, h⟩ := (rch_tb hg hi q b).mp e
    exact absurd (Wk_lt hg hi t b h) (by omega)
theorem rch_or {g : Nat → Nat → Nat} {n k i q : Nat} : rch g n k i q ||| rch g n k i (q + 1) = rch g n k i (q + 1) := by
  show rch g n k i q ||| (rch g n k i q ||| ahd g n (rch g n k i q) k) = rch g n k i q ||| ahd g n (rch g n k i q) k
  rw [← Nat.or_assoc, Nat.or_self]
theorem rch_st {g : Nat → Nat → Nat} {n k i q : Nat} (h : rch g n k i (q + 1) = rch g n k i q) : ∀ d, rch g n k i (q + d) = rch g n k i q := by
  intro d
  induction d with
  | zero => rfl
  | succ d ih =>
    show rch g n k i (q + d) ||| ahd g n (rch g n k i (q + d)) k = rch g n k i q
    rw [ih]; exact h
theorem rch_nn {g : Nat → Nat → Nat} {n k i : Nat} (hg : ∀ i j, i < n → j < k → g i j < n) (hn : n ≤ 6) (hi : i < n) : rch g n k i (n - 1 + 1) = rch g n k i (n - 1) := by
  apply Classical.byContradiction
  intro hne
  have h1 : ∀ q, q ≤ n - 1 → rch g n k i (q + 1) ≠ rch g n k i q := by
    intro q hq e
    have e1 := rch_st e (n - 1 - q)
    have e2 := rch_st e (n - 1 + 1 - q)
    rw [show q + (n - 1 - q) = n - 1 by omega] at e1
    rw [show q + (n - 1 + 1 - q) = n - 1 + 1 by omega] at e2
    exact hne (e2.trans e1.symm)
  have h2 : ∀ q, q ≤ n → q + 1 ≤ bitsN (rch g n k i q) 6 := by
    intro q
    induction q with
    | zero => intro _; exact bits_1 i (by omega)
    | succ q ih =>
      intro hq
      have a := ih (by omega)
      have b := bits_lt _ (rch_lt hg hn hi q) _ (rch_lt hg hn hi (q + 1)) rch_or (fun e => h1 q (by omega) e.symm)
      omega
  have h3 := bits_n n (by omega) _ (rch_lt hg hn hi n) (rch_2n hg hi n)
  have h4 := h2 n (Nat.le_refl n)
  omega
theorem rch_ge {g : Nat → Nat → Nat} {n k i q : Nat} (hg : ∀ i j, i < n → j < k → g i j < n) (hn : n ≤ 6) (hi : i < n) (hq : n - 1 ≤ q) : rch g n k i q = rch g n k i (n - 1) := by
  have := rch_st (rch_nn hg hn hi) (q - (n - 1))
  rw [show n - 1 + (q - (n - 1)) = q by omega] at this
  exact this
theorem reach_eq {g : Nat → Nat → Nat} {n k i : Nat} (hg : ∀ i j, i < n → j < k → g i j < n) (hn : n ≤ 6) (hi : i < n) : rcA g n k i (n - 1) = rch g n k i n := by
  rw [rcA_rch hg, rch_ge hg hn hi (q := n) (by omega)]
theorem Wk_b {g : Nat → Nat → Nat} {n k i t b : Nat} (hg : ∀ i j, i < n → j < k → g i j < n) (hn : n ≤ 6) (hi : i < n) (h : Wk g k i t b) : ∃ u, u ≤ n - 1 ∧ Wk g k i u b := by
  by_cases z : t ≤ n - 1
  · exact ⟨t, z, h⟩
  · have h1 := (rch_tb hg hi t b).mpr ⟨t, Nat.le_refl t, h⟩
    rw [rch_ge hg hn hi (q := t) (by omega)] at h1
    exact (rch_tb hg hi (n - 1) b).mp h1
/-! closed classes -/
theorem nB_congr {f f' : Nat → Bool} {n : Nat} (h : ∀ i, i < n → f i = f' i) : nB f n = nB f' n := by
  induction n with
  | zero => rfl
  | succ n ih =>
    unfold nB
    rw [ih (fun i hi => h i (by omega)), h n (by omega)]
theorem low_b : ∀ i, i < 6 → ∀ X, X < 64 → (X &&& (2 ^ i - 1) = 0 ↔ ∀ q, q < i → ¬ X / 2 ^ q % 2 = 1) := by decide +kernel
theorem low_eq {g : Nat → Nat → Nat} {n k i : Nat} (hg : ∀ i j, i < n → j < k → g i j < n) (hn : n ≤ 6) (hi : i < n) : lowB g n k i = (isCl g n k i && decide (rch g n k i n &&& (2 ^ i - 1) = 0)) := by
  apply Bool.eq_iff_iff.mpr
  have hR := rch_lt hg hn hi n
  rw [Bool.and_eq_true, decide_eq_true_iff, low_b i (by omega) _ hR]
  unfold lowB isCl
  rw [allB_iff, allB_iff]
  have e : ∀ q, q < n → (lwF g n k i q = true ↔ ¬ rch g n k i n / 2 ^ q % 2 = 1 ∨ ¬ q < i ∧ rch g n k q n / 2 ^ i % 2 = 1) := by
    intro q hq
    unfold lwF
    rw [reach_eq hg hn hi, reach_eq hg hn hq, Bool.or_eq_true, Bool.and_eq_true, decide_eq_true_iff, and_b0 q (by omega) _ hR, Bool.not_eq_true', Bool.not_eq_true', decide_eq_false_iff_not, decide_eq_false_iff_not]
    have := and_bt i (by omega) _ (rch_lt hg hn hq n)
    rw [← this]
  have e2 : ∀ q, q < n → ((decide (rch g n k i n / 2 ^ q % 2 = 0) || decide (rch g n k q n / 2 ^ i % 2 = 1)) = true ↔ ¬ rch g n k i n / 2 ^ q % 2 = 1 ∨ rch g n k q n / 2 ^ i % 2 = 1) := by
    intro q hq
    rw [Bool.or_eq_true, decide_eq_true_iff, decide_eq_true_iff]
    constructor
    · rintro (h | h)
      · exact Or.inl (by omega)
      · exact Or.inr h
    · rintro (h | h)
      · exact Or.inl (by omega)
      · exact Or.inr h
  constructor
  · intro h
    refine ⟨fun q hq => (e2 q hq).mpr ?_, fun q hq z => ?_⟩
    · rcases (e q hq).mp (h q hq) with h1 | h1
      · exact Or.inl h1
      · exact Or.inr h1.2
    · rcases (e q (by omega)).mp (h q (by omega)) with h1 | h1
      · exact h1 z
      · exact h1.1 hq
  · rintro ⟨h1, h2⟩ q hq
    refine (e q hq).mpr ?_
    by_cases z : rch g n k i n / 2 ^ q % 2 = 1
    · rcases (e2 q hq).mp (h1 q hq) with h3 | h3
      · exact absurd z h3
      · exact Or.inr ⟨fun hqi => h2 q hqi z, h3⟩
    · exact Or.inl z
theorem closed_eq {g : Nat → Nat → Nat} {n k : Nat} (hg : ∀ i j, i < n → j < k → g i j < n) (hn : n ≤ 6) : nB (lowB g n k) n = nCl g n k n := nB_congr (fun i hi => low_eq hg hn hi)
/-! periods -/
theorem and_tb {X b : Nat} : X &&& 2 ^ b = 0 ↔ ¬ X.testBit b = true := by
  constructor
  · intro h z
    have e : (X &&& 2 ^ b).testBit b = true := by rw [Nat.testBit_and, z, Nat.testBit_two_pow_self]; rfl
    rw [h, Nat.zero_testBit] at e
    exact nomatch e
  · intro h
    apply Nat.eq_of_testBit_eq
    intro j
    rw [Nat.testBit_and, Nat.testBit_two_pow, Nat.zero_testBit]
    by_cases e : b = j
    · subst e
      cases z : X.testBit b with
      | false => rfl
      | true => exact absurd z h
    · rw [decide_eq_false e, Bool.and_false]
theorem stA_stp {g : Nat → Nat → Nat} {n k i : Nat} (hg : ∀ i j, i < n → j < k → g i j < n) : ∀ q, stA g n k i q = stp g n k i q := by
  intro q
  induction q with
  | zero => rfl
  | succ q ih =>
    show soO g n k (stA g n k i q) n = ahd g n (stp g n k i q) k
    rw [ih, soO_ahd hg]
theorem prB_tb {g : Nat → Nat → Nat} {n k i : Nat} (hg : ∀ i j, i < n → j < k → g i j < n) (hi : i < n) : ∀ q r, (prB g n k i q).testBit r = true ↔ 1 ≤ r ∧ r ≤ q ∧ Wk g k i r i := by
  intro q
  induction q with
  | zero =>
    intro r
    constructor
    · intro h
      rw [show prB g n k i 0 = 0 from rfl, Nat.zero_testBit] at h
      exact nomatch h
    · intro h; omega
  | succ q ih =>
    intro r
    have e : (stA g n k i (q + 1) &&& 2 ^ i = 0) ↔ ¬ Wk g k i (q + 1) i := by rw [and_tb, stA_stp hg, stp_tb hg hi]
    show (if stA g n k i (q + 1) &&& 2 ^ i = 0 then prB g n k i q else prB g n k i q ||| 2 ^ (q + 1)).testBit r = true ↔ _
    by_cases z : Wk g k i (q + 1) i
    · rw [if_neg (fun h => e.mp h z), tb_or, ih, Nat.testBit_two_pow, decide_eq_true_iff]
      constructor
      · rintro (⟨h1, h2, h3⟩ | h)
        · exact ⟨h1, by omega, h3⟩
        · subst h; exact ⟨by omega, Nat.le_refl _, z⟩
      · rintro ⟨h1, h2, h3⟩
        by_cases y : r = q + 1
        · exact Or.inr y.symm
        · exact Or.inl ⟨h1, by omega, h3⟩
    · rw [if_pos (e.mpr z), ih]
      constructor
      · rintro ⟨h1, h2, h3⟩
        exact ⟨h1, by omega, h3⟩
      · rintro ⟨h1, h2, h3⟩
        by_cases y : r = q + 1
        · subst y; exact absurd h3 z
        · exact ⟨h1, by omega, h3⟩
theorem prd_dvd {g : Nat → Nat → Nat} {n k i : Nat} (hg : ∀ i j, i < n → j < k → g i j < n) (hi : i < n) : ∀ q r, 1 ≤ r → r ≤ q → Wk g k i r i → prd g n k i q ∣ r := by
  intro q
  induction q with
  | zero => intro r h1 h2; omega
  | succ q ih =>
    intro r h1 h2 h3
    show (if stp g n k i (q + 1) / 2 ^ i % 2 = 1 then Nat.gcd (q + 1) (prd g n k i q) else prd g n k i q) ∣ r
    by_cases z : Wk g k i (q + 1) i
    · rw [if_pos (tb_d.mpr ((stp_tb hg hi _ _).mpr z))]
      by_cases y : r = q + 1
      · subst y; exact Nat.gcd_dvd_left _ _
      · exact Nat.dvd_trans (Nat.gcd_dvd_right _ _) (ih r h1 (by omega) h3)
    · rw [if_neg (fun h => z ((stp_tb hg hi _ _).mp (tb_d.mp h)))]
      by_cases y : r = q + 1
      · subst y; exact absurd h3 z
      · exact ih r h1 (by omega) h3
theorem prd_gr {g : Nat → Nat → Nat} {n k i d : Nat} (hg : ∀ i j, i < n → j < k → g i j < n) (hi : i < n) : ∀ q, (∀ r, 1 ≤ r → r ≤ q → Wk g k i r i → d ∣ r) → d ∣ prd g n k i q := by
  intro q
  induction q with
  | zero => intro _; exact Nat.dvd_zero d
  | succ q ih =>
    intro h
    have a := ih (fun r h1 h2 h3 => h r h1 (by omega) h3)
    show d ∣ (if stp g n k i (q + 1) / 2 ^ i % 2 = 1 then Nat.gcd (q + 1) (prd g n k i q) else prd g n k i q)
    by_cases z : stp g n k i (q + 1) / 2 ^ i % 2 = 1
    · rw [if_pos z]
      exact Nat.dvd_gcd (h (q + 1) (by omega) (Nat.le_refl _) ((stp_tb hg hi _ _).mp (tb_d.mp z))) a
    · rw [if_neg z]; exact a
theorem pot {g : Nat → Nat → Nat} {n k i d : Nat} (hg : ∀ i j, i < n → j < k → g i j < n) (hn : n ≤ 6) (hi : i < n) (hd : ∀ r, 1 ≤ r → r ≤ 12 → Wk g k i r i → d ∣ r) : ∀ t v, Wk g k i t v → ∀ r, r ≤ 5 → Wk g k v r i → d ∣ t + r := by
  intro t
  induction t with
  | zero =>
    intro v hv r hr h
    have e : v = i := hv
    subst e
    rw [Nat.zero_add]
    by_cases z : r = 0
    · subst z; exact Nat.dvd_zero d
    · exact hd r (by omega) (by omega) h
  | succ t ih =>
    rintro v ⟨u, hu, s, hs, e⟩ r hr h
    have hun := Wk_lt hg hi t u hu
    have h1 : Wk g k u (1 + r) i := Wk_trans (Wk_one hs e) r i h
    obtain ⟨r', hr', h2⟩ := Wk_b hg hn hun h1
    obtain ⟨w, hw, h3⟩ := Wk_b hg hn hi hu
    have d1 := ih u hu r' (by omega) h2
    have d2 : d ∣ w + r' := by
      by_cases z : w + r' = 0
      · rw [z]; exact Nat.dvd_zero d
      · exact hd _ (by omega) (by omega) (Wk_trans h3 r' i h2)
    have d3 : d ∣ w + (1 + r) := hd _ (by omega) (by omega) (Wk_trans h3 (1 + r) i h1)
    have d4 : d ∣ (w + r') + (t + 1 + r) := by
      have := Nat.dvd_add d1 d3
      rw [show (t + r') + (w + (1 + r)) = (w + r') + (t + 1 + r) by omega] at this
      exact this
    exact (Nat.dvd_add_right d2).mp d4
theorem dvA_iff {d N : Nat} : dvA d N = true ↔ ∀ r, 1 ≤ r → r ≤ 12 → N.testBit r = true → d ∣ r := by
  unfold dvA
  rw [allB_iff]
  have e : ∀ q, dvF d N q = true ↔ (N.testBit (q + 1) = true → d ∣ q + 1) := by
    intro q
    unfold dvF
    rw [Bool.or_eq_true, decide_eq_true_iff, decide_eq_true_iff, and_tb, Nat.dvd_iff_mod_eq_zero]
    constructor
    · rintro (h | h) h2
      · exact absurd h2 h
      · exact h
    · intro h
      by_cases z : N.testBit (q + 1) = true
      · exact Or.inr (h z)
      · exact Or.inl z
  constructor
  · intro h r h1 h2 h3
    have := (e (r - 1)).mp (h (r - 1) (by omega))
    rw [show r - 1 + 1 = r by omega] at this
    exact this h3
  · intro h q hq
    exact (e q).mpr (h (q + 1) (by omega) (by omega))
theorem gdD_dv {N : Nat} : ∀ d, dvA (gdD N d) N = true := by
  intro d
  have h1 : dvA 1 N = true := dvA_iff.mpr (fun r _ _ _ => Nat.one_dvd r)
  induction d with
  | zero => exact h1
  | succ d ih =>
    show dvA (if d = 0 then 1 else if dvA (d + 1) N = true then d + 1 else gdD N d) N = true
    by_cases z : d = 0
    · rw [if_pos z]; exact h1
    · rw [if_neg z]
      by_cases y : dvA (d + 1) N = true
      · rw [if_pos y]; exact y
      · rw [if_neg y]; exact ih
theorem gdD_max {N : Nat} : ∀ d x, x ≤ d → dvA x N = true → x ≤ gdD N d := by
  intro d
  induction d with
  | zero => intro x hx _; omega
  | succ d ih =>
    intro x hx h
    show x ≤ (if d = 0 then 1 else if dvA (d + 1) N = true then d + 1 else gdD N d)
    by_cases z : d = 0
    · rw [if_pos z]; omega
    · rw [if_neg z]
      by_cases y : dvA (d + 1) N = true
      · rw [if_pos y]; exact hx
      · rw [if_neg y]
        by_cases w : x = d + 1
        · subst w; exact absurd h y
        · exact ih x (by omega) h
theorem period_eq {g : Nat → Nat → Nat} {n k i : Nat} (hg : ∀ i j, i < n → j < k → g i j < n) (hn : n ≤ 6) (hi : i < n) : prC g n k i = prd g n k i 40 := by
  unfold prC
  by_cases z : prB g n k i 12 = 0
  · rw [if_pos z]
    have hno : ∀ r, 1 ≤ r → ¬ Wk g k i r i := by
      intro r h1 h
      obtain ⟨t, rfl⟩ : ∃ t, r = t + 1 := ⟨r - 1, by omega⟩
      obtain ⟨u, hu, s, hs, e⟩ := h
      obtain ⟨w, hw, h3⟩ := Wk_b hg hn hi hu
      have h4 := (prB_tb hg hi 12 (w + 1)).mpr ⟨by omega, by omega, u, h3, s, hs, e⟩
      rw [z, Nat.zero_testBit] at h4
      exact nomatch h4
    have : 0 ∣ prd g n k i 40 := prd_gr hg hi 40 (fun r h1 _ h3 => absurd h3 (hno r h1))
    exact (Nat.eq_zero_of_zero_dvd this).symm
  · rw [if_neg z]
    obtain ⟨r, hr⟩ : ∃ r, (prB g n k i 12).testBit r = true := by
      apply Classical.byContradiction
      intro hn
      refine z (Nat.eq_of_testBit_eq (fun b => ?_))
      rw [Nat.zero_testBit]
      cases e : (prB g n k i 12).testBit b with
      | false => rfl
      | true => exact absurd ⟨b, e⟩ hn
    obtain ⟨r1, r2, r3⟩ := (prB_tb hg hi 12 r).mp hr
    have hG := prd_dvd hg hi 40 r r1 (by omega) r3
    have hG0 : 0 < prd g n k i 40 := Nat.pos_of_dvd_of_pos hG r1
    have hG12 : prd g n k i 40 ≤ 12 := Nat.le_trans (Nat.le_of_dvd r1 hG) r2
    have hGd : dvA (prd g n k i 40) (prB g n k i 12) = true := dvA_iff.mpr (fun q h1 h2 h3 => prd_dvd hg hi 40 q h1 (by omega) ((prB_tb hg hi 12 q).mp h3).2.2)
    have a1 := gdD_max 12 _ hG12 hGd
    have hD := dvA_iff.mp (gdD_dv (N := prB g n k i 12) 12)
    have a2 : gdD (prB g n k i 12) 12 ∣ prd g n k i 40 := prd_gr hg hi 40 (fun q h1 h2 h3 => by
      have := pot hg hn hi (fun r h1 h2 h3 => hD r h1 h2 ((prB_tb hg hi 12 r).mpr ⟨h1, h2, h3⟩)) q i h3 0 (by omega) rfl
      exact this)
    exact Nat.le_antisymm (Nat.le_of_dvd hG0 a2) a1
/-! ranks -/
theorem lastP_1 {P : Nat → Bool} {i : Nat} (hP : P i = true) : ∀ n, i < n → (∀ q, q < n → P q = true → q = i) → lastP P n = nI i := by
  intro n
  induction n with
  | zero => intro h; omega
  | succ n ih =>
    intro h hu
    show (if P n = true then nI n else lastP P n) = nI i
    by_cases z : P n = true
    · rw [if_pos z, hu n (by omega) z]
    · rw [if_neg z]
      by_cases y : i = n
      · subst y; exact absurd hP z
      · exact ih (by omega) (fun q hq => hu q (by omega))
theorem lastP_0 {P : Nat → Bool} : ∀ n, (∀ q, q < n → ¬ P q = true) → lastP P n = -1 := by
  intro n
  induction n with
  | zero => intro _; rfl
  | succ n ih =>
    intro h
    show (if P n = true then nI n else lastP P n) = -1
    rw [if_neg (h n (by omega))]
    exact ih (fun q hq => h q (by omega))
theorem mxs_1 {P : Nat → Bool} {i : Nat} (hP : P i = true) : ∀ fu u, u ≤ i → i < u + fu → (∀ q, q < u + fu → P q = true → q = i) → mxs P fu u = nI i := by
  intro fu
  induction fu with
  | zero => intro u h1 h2; omega
  | succ fu ih =>
    intro u h1 h2 hu
    show (if P u = true then nI u else mxs P fu (u + 1)) = nI i
    by_cases z : P u = true
    · rw [if_pos z, hu u (by omega) z]
    · rw [if_neg z]
      by_cases y : i = u
      · subst y; exact absurd hP z
      · exact ih (u + 1) (by omega) (by omega) (fun q hq => hu q (by omega))
theorem mxs_0 {P : Nat → Bool} : ∀ fu u, (∀ q, q < u + fu → ¬ P q = true) → mxs P fu u = -1 := by
  intro fu
  induction fu with
  | zero => intro u _; rfl
  | succ fu ih =>
    intro u h
    show (if P u = true then nI u else mxs P fu (u + 1)) = -1
    rw [if_neg (h u (by omega))]
    exact ih (u + 1) (fun q hq => h q (by omega))
theorem mxs_last {P : Nat → Bool} {n : Nat} (h : ∀ i j, i < n → j < n → P i = true → P j = true → i = j) : mxs P n 0 = lastP P n := by
  by_cases z : ∃ i, i < n ∧ P i = true
  · obtain ⟨i, hi, hP⟩ := z
    rw [lastP_1 hP n hi (fun q hq hq2 => h q i hq hi hq2 hP), mxs_1 hP n 0 (Nat.zero_le i) (by omega) (fun q hq hq2 => h q i (by omega) hi hq2 hP)]
  · rw [lastP_0 n (fun q hq hq2 => z ⟨q, hq, hq2⟩), mxs_0 n 0 (fun q hq hq2 => z ⟨q, by omega, hq2⟩)]
theorem nB_mono {f f' : Nat → Bool} {n : Nat} (h : ∀ q, q < n → f q = true → f' q = true) : nB f n ≤ nB f' n := by
  induction n with
  | zero => exact Nat.le_refl 0
  | succ n ih =>
    have a := ih (fun q hq => h q (by omega))
    cases z : f n with
    | false =>
      rw [← nB_f z]
      cases y : f' n with
      | false => rw [← nB_f y]; exact a
      | true => rw [← nB_t y]; omega
    | true => rw [← nB_t z, ← nB_t (h n (by omega) z)]; omega
theorem nB_lt {f f' : Nat → Bool} {n j : Nat} (hj : j < n) (h : ∀ q, q < n → f q = true → f' q = true) (h1 : f j = false) (h2 : f' j = true) : nB f n < nB f' n := by
  induction n with
  | zero => omega
  | succ n ih =>
    by_cases e : j = n
    · subst e
      rw [← nB_f h1, ← nB_t h2]
      have := nB_mono (fun q hq => h q (by omega)) (n := j)
      omega
    · have a := ih (by omega) (fun q hq => h q (by omega))
      cases z : f n with
      | false =>
        rw [← nB_f z]
        cases y : f' n with
        | false => rw [← nB_f y]; exact a
        | true => rw [← nB_t y]; omega
      | true => rw [← nB_t z, ← nB_t (h n (by omega) z)]; omega
theorem ahB_iff {F : Nat → Int64} {i q : Nat} : aheadB F i q = true ↔ F i < F q ∨ F q = F i ∧ q < i := by
  unfold aheadB
  rw [Bool.or_eq_true, Bool.and_eq_true, decide_eq_true_iff, decide_eq_true_iff, decide_eq_true_iff]
theorem plc_lt {F : Nat → Int64} {i j n : Nat} (hj : j < n) (h : aheadB F i j = true) : plc F j n < plc F i n := by
  unfold plc
  refine nB_lt hj (fun q _ hq => ?_) ?_ h
  · rw [ahB_iff] at *
    rcases h with h | ⟨h, h'⟩ <;> rcases hq with hq | ⟨hq, hq'⟩
    · exact Or.inl (Int64.lt_trans h hq)
    · exact Or.inl (by rw [hq]; exact h)
    · exact Or.inl (by rw [← h]; exact hq)
    · exact Or.inr ⟨hq.trans h, by omega⟩
  · cases e : aheadB F j j with
    | false => rfl
    | true =>
      rcases ahB_iff.mp e with h1 | ⟨_, h1⟩
      · exact absurd h1 (Int64.lt_irrefl)
      · omega
theorem plc_inj {F : Nat → Int64} {i j n : Nat} (hi : i < n) (hj : j < n) (h : plc F i n = plc F j n) : i = j := by
  apply Classical.byContradiction
  intro hne
  have : aheadB F i j = true ∨ aheadB F j i = true := by
    rw [ahB_iff, ahB_iff]
    by_cases a : F i < F j
    · exact Or.inl (Or.inl a)
    · by_cases b : F j < F i
      · exact Or.inr (Or.inl b)
      · have e : F i = F j := Int64.le_antisymm (Int64.not_lt.mp b) (Int64.not_lt.mp a)
        rcases Nat.lt_or_gt_of_ne hne with c | c
        · exact Or.inr (Or.inr ⟨e, c⟩)
        · exact Or.inl (Or.inr ⟨e.symm, c⟩)
  rcases this with a | a
  · have := plc_lt hj a; omega
  · have := plc_lt hi a; omega
theorem ranked_eq {F : Nat → Int64} {n r : Nat} : mxs (fun i => decide (plc F i n = r)) n 0 = lastP (fun i => decide (plc F i n = r)) n :=
  mxs_last (fun i j hi hj h1 h2 => plc_inj hi hj ((of_decide_eq_true h1).trans (of_decide_eq_true h2).symm))
/-! games -/
theorem sumL_z {n : Nat} : sumL (fun _ => lN 0) n = lN 0 := by
  induction n with
  | zero => rfl
  | succ n ih => show sumL (fun _ => lN 0) n + lN 0 = lN 0; rw [ih]; rfl
theorem sumL_ff {f f' : Nat → Int64} {n : Nat} : sumL (fun i => f i + f' i) n = sumL f n + sumL f' n := by
  induction n with
  | zero => show lN 0 = lN 0 + lN 0; rfl
  | succ n ih =>
    show sumL (fun i => f i + f' i) n + (f n + f' n) = (sumL f n + f n) + (sumL f' n + f' n)
    rw [ih]; ac_rfl
theorem sumL_one {n b : Nat} {c : Int64} (h : b < n) : sumL (fun d => if d = b then c else lN 0) n = c := by
  induction n with
  | zero => omega
  | succ n ih =>
    show sumL (fun d => if d = b then c else lN 0) n + (if n = b then c else lN 0) = c
    by_cases z : n = b
    · subst z
      rw [if_pos rfl, sumL_congr (f' := fun _ => lN 0) (fun d hd => if_neg (by omega)), sumL_z]
      exact Int64.zero_add c
    · rw [if_neg z, ih (by omega)]
      exact Int64.add_zero c
theorem sumL_via {f : Nat → Int64} {h : Nat → Nat} {n : Nat} : ∀ {k : Nat}, (∀ s, s < k → h s < n) → sumL (fun s => f (h s)) k = sumL (fun d => lN (cnt h d k) * f d) n := by
  intro k
  induction k with
  | zero =>
    intro _
    show lN 0 = _
    rw [sumL_congr (f := fun d => lN (cnt h d 0) * f d) (f' := fun _ => lN 0) (fun i _ => Int64.zero_mul), sumL_z]
  | succ k ih =>
    intro hh
    show sumL (fun s => f (h s)) k + f (h k) = _
    rw [ih (fun s hs => hh s (by omega))]
    have e : sumL (fun d => lN (cnt h d (k + 1)) * f d) n = sumL (fun d => lN (cnt h d k) * f d + (if d = h k then f (h k) else lN 0)) n := by
      refine sumL_congr (fun d _ => ?_)
      rw [cnt_s]
      by_cases z : h k = d
      · rw [if_pos z, if_pos z.symm, ← lN_add, Int64.add_mul, z]
        congr 1
        exact Int64.one_mul _
      · rw [if_neg z, if_neg (Ne.symm z), Nat.add_zero]
        exact (Int64.add_zero _).symm
    rw [e, sumL_ff, sumL_one (hh k (Nat.lt_succ_self k))]
theorem stV_0 {fp : Nat → Int32} {k i : Nat} : stV fp k 0 i = (fp i).toInt64 := by
  unfold stV
  rw [Nat.pow_zero]
  exact Int64.mul_one _
theorem BC_BV {fp : Nat → Int32} {g : Nat → Nat → Nat} {n k : Nat} (hg : ∀ i j, i < n → j < k → g i j < n) : ∀ t i, i < n → BC fp g n k t i = BV fp g k t i := by
  intro t
  induction t with
  | zero => intro i _; exact stV_0
  | succ t ih =>
    intro i hi
    have e : sumL (fun j => lN (cnt (g i) j k) * BC fp g n k t j) n = sumL (fun s => BV fp g k t (g i s)) k := by
      rw [sumL_via (f := fun d => BV fp g k t d) (h := g i) (n := n) (fun s hs => hg i s hi hs)]
      exact sumL_congr (fun d hd => by rw [ih d hd])
    show (if sumL (fun j => lN (cnt (g i) j k) * BC fp g n k t j) n < stV fp k (t + 1) i then stV fp k (t + 1) i else sumL (fun j => lN (cnt (g i) j k) * BC fp g n k t j) n) = (if (fp i).toInt64 * lN (k ^ (t + 1)) < sumL (fun s => BV fp g k t (g i s)) k then sumL (fun s => BV fp g k t (g i s)) k else (fp i).toInt64 * lN (k ^ (t + 1)))
    rw [e]
    show (if sumL (fun s => BV fp g k t (g i s)) k < (fp i).toInt64 * lN (k ^ (t + 1)) then (fp i).toInt64 * lN (k ^ (t + 1)) else sumL (fun s => BV fp g k t (g i s)) k) = _
    by_cases a : sumL (fun s => BV fp g k t (g i s)) k < (fp i).toInt64 * lN (k ^ (t + 1))
    · rw [if_pos a, if_neg (fun b => absurd (Int64.lt_trans a b) Int64.lt_irrefl)]
    · rw [if_neg a]
      by_cases b : (fp i).toInt64 * lN (k ^ (t + 1)) < sumL (fun s => BV fp g k t (g i s)) k
      · rw [if_pos b]
      · rw [if_neg b]; exact Int64.le_antisymm (Int64.not_lt.mp b) (Int64.not_lt.mp a)
theorem GC_GV {fp : Nat → Int32} {g : Nat → Nat → Nat} {n k : Nat} (hg : ∀ i j, i < n → j < k → g i j < n) (t i : Nat) (hi : i < n) : GC fp g n k t i = GV fp g k t i := by
  cases t with
  | zero => exact stV_0
  | succ t =>
    show sumL (fun j => lN (cnt (g i) j k) * BC fp g n k t j) n = sumL (fun s => BV fp g k t (g i s)) k
    rw [sumL_via (f := fun d => BV fp g k t d) (h := g i) (n := n) (fun s hs => hg i s hi hs)]
    exact sumL_congr (fun d hd => by rw [BC_BV hg t d hd])
theorem stC_B {fp : Nat → Int32} {g : Nat → Nat → Nat} {n k : Nat} (hg : ∀ i j, i < n → j < k → g i j < n) (t i : Nat) (hi : i < n) : stC fp g n k i t = stB fp g k i t := by
  unfold stC stB
  rw [GC_GV hg t i hi]
  rfl
theorem pay_t {v : Int32} (h : inR v (-100000) (nI 100000) = true) : -100000 ≤ v.toInt ∧ v.toInt ≤ 100000 := by
  have h1 := inR_1 h
  have h2 := inR_2 h
  rw [Int32.lt_iff_toInt_lt] at h1 h2
  have e1 : (-100000 : Int32).toInt = -100000 := by decide
  have e2 : (nI 100000).toInt = 100000 := by decide
  omega
theorem sub_w {a b : Int32} (ha : -100000 ≤ a.toInt ∧ a.toInt ≤ 100000) (hb : -100000 ≤ b.toInt ∧ b.toInt ≤ 100000) : (a - b).toInt64 = a.toInt64 - b.toInt64 := by
  apply Int64.toInt_inj.mp
  rw [Int32.toInt_toInt64, Int32.toInt_sub, Int64.toInt_sub, Int32.toInt_toInt64, Int32.toInt_toInt64]
  have e1 : (a.toInt - b.toInt).bmod (2 ^ 32) = a.toInt - b.toInt := Int.bmod_eq_of_le (by omega) (by omega)
  have e2 : (a.toInt - b.toInt).bmod (2 ^ 64) = a.toInt - b.toInt := Int.bmod_eq_of_le (by omega) (by omega)
  rw [e1, e2]
theorem sumL_sub {f : Nat → Int64} {y : Int64} : ∀ k, sumL (fun s => f s - y) k = sumL f k - lN k * y := by
  intro k
  induction k with
  | zero =>
    show lN 0 = lN 0 - lN 0 * y
    rw [show lN 0 * y = lN 0 from Int64.zero_mul]; rfl
  | succ k ih =>
    show sumL (fun s => f s - y) k + (f k - y) = (sumL f k + f k) - lN (k + 1) * y
    rw [ih, ← lN_add, Int64.add_mul, show lN 1 * y = y from Int64.one_mul y]
    rw [Int64.sub_eq_add_neg, Int64.sub_eq_add_neg, Int64.sub_eq_add_neg, Int64.neg_add, Int64.sub_eq_add_neg]
    ac_rfl
theorem DC_DV {fp : Nat → Int32} {g : Nat → Nat → Nat} {n k i : Nat} (hg : ∀ i j, i < n → j < k → g i j < n) (hi : i < n) (hp : ∀ q, q < n → inR (fp q) (-100000) (nI 100000) = true) : DC fp g n k i = DV fp g k i := by
  unfold DC DV
  rw [← sumL_via (f := fun d => (fp d).toInt64) (h := g i) (n := n) (fun s hs => hg i s hi hs), ← sumL_sub]
  exact sumL_congr (fun s hs => (sub_w (pay_t (hp _ (hg i s hi hs))) (pay_t (hp i hi))).symm)
theorem allB_congr {f f' : Nat → Bool} {n : Nat} (h : ∀ i, i < n → f i = f' i) : allB f n = allB f' n := by
  apply Bool.eq_iff_iff.mpr
  rw [allB_iff, allB_iff]
  exact ⟨fun a i hi => by rw [← h i hi]; exact a i hi, fun a i hi => by rw [h i hi]; exact a i hi⟩
theorem fair_eq {fp : Nat → Int32} {g : Nat → Nat → Nat} {n k : Nat} (hg : ∀ i j, i < n → j < k → g i j < n) (hp : ∀ q, q < n → inR (fp q) (-100000) (nI 100000) = true) : fairC fp g n k = fairB fp g n k := allB_congr (fun q hq => by rw [DC_DV hg hq hp])
/-! reversing, lumping -/
theorem two_B {P : Nat → Nat → Bool} {n : Nat} (h : ∀ u w, P u w = P w u) : allB (fun u => allB (fun w => !decide (u < w) || P u w) n) n = allB (fun u => allB (fun w => P u w) u) n := by
  apply Bool.eq_iff_iff.mpr
  rw [allB_iff, allB_iff]
  constructor
  · intro a u hu
    rw [allB_iff]
    intro w hw
    have h1 := allB_iff.mp (a w (by omega)) u hu
    rw [decide_eq_true hw] at h1
    rw [h]
    exact h1
  · intro a u hu
    rw [allB_iff]
    intro w hw
    by_cases z : u < w
    · rw [h, allB_iff.mp (a w hw) u z, Bool.or_true]
    · rw [decide_eq_false z]; rfl
theorem rvG_s {g : Nat → Nat → Nat} {n k u w : Nat} : rvG g n k u w = rvG g n k w u := by
  unfold rvG
  exact decide_eq_decide.mpr ⟨Eq.symm, Eq.symm⟩
theorem rev_eq {g : Nat → Nat → Nat} {n k : Nat} : revA g n k = rvB g n k := by
  unfold revA rvB
  rw [two_B (fun u w => rvG_s), Bool.and_comm]
theorem lmF_s {g : Nat → Nat → Nat} {n k u w : Nat} {col : Nat → Nat} : lmF g n k col u w = lmF g n k col w u := by
  unfold lmF lkB
  congr 1
  · exact congrArg _ (decide_eq_decide.mpr ⟨Eq.symm, Eq.symm⟩)
  · exact allB_congr (fun x _ => decide_eq_decide.mpr ⟨Eq.symm, Eq.symm⟩)
theorem lm_eq {g : Nat → Nat → Nat} {n k : Nat} {col : Nat → Nat} : lmA g n k col = lmB g n k col := by
  unfold lmA lmB
  rw [two_B (fun u w => lmF_s)]
  refine allB_congr (fun u _ => allB_congr (fun w _ => ?_))
  unfold lmF lkB
  apply Bool.eq_iff_iff.mpr
  rw [Bool.or_eq_true, allB_iff, allB_iff]
  constructor
  · rintro (h | h) x hx
    · show (_ || _) = true; rw [h]; rfl
    · show (_ || _) = true; rw [show decide (WC g k col n u x = WC g k col n w x) = true from h x hx, Bool.or_true]
  · intro h
    cases z : (!decide (col u = col w)) with
    | true => exact Or.inl rfl
    | false =>
      refine Or.inr (fun x hx => ?_)
      have := h x hx
      unfold lmK at this
      rw [z] at this
      exact this
