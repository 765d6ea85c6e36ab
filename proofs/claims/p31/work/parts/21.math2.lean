/-! ===== sums of whole numbers ===== -/
def sI (f : Nat → Int) : Nat → Int
  | 0 => 0
  | n + 1 => sI f n + f n
theorem sI_congr {f f' : Nat → Int} {n : Nat} (h : ∀ i, i < n → f i = f' i) : sI f n = sI f' n := by
  induction n with
  | zero => rfl
  | succ n ih => show sI f n + f n = sI f' n + f' n; rw [ih (fun i hi => h i (by omega)), h n (by omega)]
theorem sI_zero {n : Nat} : sI (fun _ => 0) n = 0 := by
  induction n with
  | zero => rfl
  | succ n ih => show sI (fun _ => 0) n + 0 = 0; rw [ih]; rfl
theorem sI_add {f f' : Nat → Int} {n : Nat} : sI (fun i => f i + f' i) n = sI f n + sI f' n := by
  induction n with
  | zero => rfl
  | succ n ih => show sI (fun i => f i + f' i) n + (f n + f' n) = (sI f n + f n) + (sI f' n + f' n); rw [ih]; omega
theorem sI_sub {f f' : Nat → Int} {n : Nat} : sI (fun i => f i - f' i) n = sI f n - sI f' n := by
  induction n with
  | zero => rfl
  | succ n ih => show sI (fun i => f i - f' i) n + (f n - f' n) = (sI f n + f n) - (sI f' n + f' n); rw [ih]; omega
theorem sI_mul {f : Nat → Int} {c : Int} {n : Nat} : sI (fun i => c * f i) n = c * sI f n := by
  induction n with
  | zero => exact (Int.mul_zero c).symm
  | succ n ih => show sI (fun i => c * f i) n + c * f n = c * (sI f n + f n); rw [ih, Int.mul_add]
theorem sI_mulr {f : Nat → Int} {c : Int} {n : Nat} : sI (fun i => f i * c) n = sI f n * c := by
  induction n with
  | zero => exact (Int.zero_mul c).symm
  | succ n ih => show sI (fun i => f i * c) n + f n * c = (sI f n + f n) * c; rw [ih, Int.add_mul]
theorem sI_swap {f : Nat → Nat → Int} {n m : Nat} : sI (fun i => sI (fun j => f i j) m) n = sI (fun j => sI (fun i => f i j) n) m := by
  induction n with
  | zero =>
    show 0 = sI (fun j => 0) m
    rw [sI_zero]
  | succ n ih =>
    show sI (fun i => sI (fun j => f i j) m) n + sI (fun j => f n j) m = sI (fun j => sI (fun i => f i j) n + f n j) m
    rw [ih, sI_add]
theorem sI_one {n b : Nat} {c : Int} (h : b < n) : sI (fun i => if i = b then c else 0) n = c := by
  induction n with
  | zero => omega
  | succ n ih =>
    show sI (fun i => if i = b then c else 0) n + (if n = b then c else 0) = c
    by_cases e : b = n
    · subst e
      rw [if_pos rfl, sI_congr (f' := fun _ => 0) (fun i hi => if_neg (by omega)), sI_zero, Int.zero_add]
    · rw [ih (by omega), if_neg (by omega), Int.add_zero]
theorem sI_const {c : Int} {n : Nat} : sI (fun _ => c) n = n * c := by
  induction n with
  | zero => exact (Int.zero_mul c).symm
  | succ n ih =>
    show sI (fun _ => c) n + c = ((n + 1 : Nat) : Int) * c
    rw [ih, Int.natCast_succ, Int.add_mul, Int.one_mul]
theorem sI_mono {f f' : Nat → Int} {n : Nat} (h : ∀ i, i < n → f i ≤ f' i) : sI f n ≤ sI f' n := by
  induction n with
  | zero => exact Int.le_refl 0
  | succ n ih =>
    have h1 := ih (fun i hi => h i (by omega))
    have h2 := h n (by omega)
    show sI f n + f n ≤ sI f' n + f' n
    omega
theorem sI_nn {f : Nat → Int} {n : Nat} (h : ∀ i, i < n → 0 ≤ f i) : 0 ≤ sI f n := by
  rw [← sI_zero (n := n)]
  exact sI_mono h
theorem sI_one_le {f : Nat → Int} {n b : Nat} (h : ∀ i, i < n → 0 ≤ f i) (hb : b < n) : f b ≤ sI f n := by
  rw [← sI_one (c := f b) hb]
  refine sI_mono (fun i hi => ?_)
  by_cases z : i = b
  · rw [if_pos z, z]; exact Int.le_refl _
  · rw [if_neg z]; exact h i hi
theorem sI_cnt {f : Nat → Nat} {v : Nat} : ∀ k, sI (fun s => if f s = v then 1 else 0) k = (cnt f v k : Int) := by
  intro k
  induction k with
  | zero => rfl
  | succ k ih =>
    show sI (fun s => if f s = v then 1 else 0) k + (if f k = v then 1 else 0) = ((cnt f v k + (if f k = v then 1 else 0) : Nat) : Int)
    rw [ih]
    by_cases z : f k = v
    · rw [if_pos z, if_pos z]; omega
    · rw [if_neg z, if_neg z]; omega
/-! ===== sums over all choices of a slot in each state of a list ===== -/
def upN (σ : Nat → Nat) (a s : Nat) : Nat → Nat := fun i => if i = a then s else σ i
theorem upN_s {σ : Nat → Nat} {a s : Nat} : upN σ a s a = s := if_pos rfl
theorem upN_n {σ : Nat → Nat} {a s b : Nat} (h : b ≠ a) : upN σ a s b = σ b := if_neg h
theorem upN_comm {σ : Nat → Nat} {a b s t : Nat} (h : a ≠ b) : upN (upN σ a s) b t = upN (upN σ b t) a s := by
  funext i
  unfold upN
  by_cases z : i = b
  · by_cases y : i = a
    · exact absurd (y.symm.trans z) h
    · rw [if_pos z, if_neg y, if_pos z]
  · rw [if_neg z]
    by_cases y : i = a
    · rw [if_pos y, if_pos y]
    · rw [if_neg y, if_neg y, if_neg z]
def sL (k : Nat) : List Nat → ((Nat → Nat) → Int) → (Nat → Nat) → Int
  | [], F, σ => F σ
  | a :: L, F, σ => sI (fun s => sL k L F (upN σ a s)) k
theorem sL_in {k a s : Nat} {L : List Nat} {σ0 σ : Nat → Nat} (hs : s < k) (h1 : ∀ b, b ∈ L → σ b < k) (h2 : ∀ b, b ∉ L → σ b = upN σ0 a s b) : (∀ b, b ∈ a :: L → σ b < k) ∧ ∀ b, b ∉ a :: L → σ b = σ0 b := by
  refine ⟨fun b hb => ?_, fun b hb => ?_⟩
  · by_cases z : b ∈ L
    · exact h1 b z
    · have e : b = a := (List.mem_cons.mp hb).resolve_right z
      rw [h2 b z, e, upN_s]; exact hs
  · have z : b ∉ L := fun h => hb (List.mem_cons_of_mem _ h)
    have e : b ≠ a := fun h => hb (h ▸ List.mem_cons_self)
    rw [h2 b z, upN_n e]
theorem sL_congr {k : Nat} {F F' : (Nat → Nat) → Int} : ∀ {L : List Nat} {σ0 : Nat → Nat}, (∀ σ, (∀ b, b ∈ L → σ b < k) → (∀ b, b ∉ L → σ b = σ0 b) → F σ = F' σ) → sL k L F σ0 = sL k L F' σ0 := by
  intro L
  induction L with
  | nil => intro σ0 h; exact h σ0 (fun b hb => absurd hb List.not_mem_nil) (fun b _ => rfl)
  | cons a L ih =>
    intro σ0 h
    exact sI_congr (fun s hs => ih (fun σ h1 h2 => h σ (sL_in hs h1 h2).1 (sL_in hs h1 h2).2))
theorem sL_sI {k n : Nat} {F : Nat → (Nat → Nat) → Int} : ∀ {L : List Nat} {σ0 : Nat → Nat}, sL k L (fun σ => sI (fun j => F j σ) n) σ0 = sI (fun j => sL k L (F j) σ0) n := by
  intro L
  induction L with
  | nil => intro σ0; rfl
  | cons a L ih =>
    intro σ0
    show sI (fun s => sL k L (fun σ => sI (fun j => F j σ) n) (upN σ0 a s)) k = sI (fun j => sI (fun s => sL k L (F j) (upN σ0 a s)) k) n
    rw [sI_congr (fun s _ => ih), sI_swap]
theorem sL_mul {k : Nat} {c : Int} {F : (Nat → Nat) → Int} : ∀ {L : List Nat} {σ0 : Nat → Nat}, sL k L (fun σ => c * F σ) σ0 = c * sL k L F σ0 := by
  intro L
  induction L with
  | nil => intro σ0; rfl
  | cons a L ih =>
    intro σ0
    show sI (fun s => sL k L (fun σ => c * F σ) (upN σ0 a s)) k = c * sI (fun s => sL k L F (upN σ0 a s)) k
    rw [sI_congr (fun s _ => ih), sI_mul]
theorem sL_perm {k : Nat} {F : (Nat → Nat) → Int} {L L' : List Nat} (h : L.Perm L') : ∀ σ0, sL k L F σ0 = sL k L' F σ0 := by
  induction h with
  | nil => intro σ0; rfl
  | cons x _ ih => intro σ0; exact sI_congr (fun s _ => ih _)
  | swap x y l =>
    intro σ0
    show sI (fun s => sI (fun t => sL k l F (upN (upN σ0 y s) x t)) k) k = sI (fun t => sI (fun s => sL k l F (upN (upN σ0 x t) y s)) k) k
    by_cases z : y = x
    · subst z; rfl
    · rw [sI_swap]
      exact sI_congr (fun t _ => sI_congr (fun s _ => by rw [upN_comm z]))
  | trans _ _ h1 h2 => intro σ0; rw [h1, h2]
theorem sL_z {k : Nat} : ∀ {L : List Nat} {σ0 : Nat → Nat}, sL k L (fun _ => 0) σ0 = 0 := by
  intro L
  induction L with
  | nil => intro σ0; rfl
  | cons a L ih =>
    intro σ0
    show sI (fun s => sL k L (fun _ => 0) (upN σ0 a s)) k = 0
    rw [sI_congr (f' := fun _ => 0) (fun s _ => ih), sI_zero]
theorem sL_nn {k : Nat} {F : (Nat → Nat) → Int} (h : ∀ σ, 0 ≤ F σ) : ∀ {L : List Nat} {σ0 : Nat → Nat}, 0 ≤ sL k L F σ0 := by
  intro L
  induction L with
  | nil => intro σ0; exact h σ0
  | cons a L ih => intro σ0; exact sI_nn (fun s _ => ih)
theorem sL_le {k : Nat} {F : (Nat → Nat) → Int} (h : ∀ σ, F σ ≤ 1) : ∀ {L : List Nat} {σ0 : Nat → Nat}, sL k L F σ0 ≤ ((k ^ L.length : Nat) : Int) := by
  intro L
  induction L with
  | nil => intro σ0; exact h σ0
  | cons a L ih =>
    intro σ0
    refine Int.le_trans (sI_mono (f' := fun _ => ((k ^ L.length : Nat) : Int)) (fun s _ => ih)) ?_
    rw [sI_const, List.length_cons, Nat.pow_succ, Nat.mul_comm, Int.natCast_mul]
    exact Int.le_refl _
theorem sL_ge {k : Nat} {F : (Nat → Nat) → Int} (h : ∀ σ, 0 ≤ F σ) {τ : Nat → Nat} : ∀ {L : List Nat} {σ0 : Nat → Nat}, (∀ b, b ∈ L → τ b < k) → (∀ b, b ∉ L → τ b = σ0 b) → F τ ≤ sL k L F σ0 := by
  intro L
  induction L with
  | nil =>
    intro σ0 _ h2
    have e : τ = σ0 := funext (fun b => h2 b List.not_mem_nil)
    rw [e]; exact Int.le_refl _
  | cons a L ih =>
    intro σ0 h1 h2
    refine Int.le_trans (ih (σ0 := upN σ0 a (τ a)) (fun b hb => h1 b (List.mem_cons_of_mem _ hb)) (fun b hb => ?_)) (sI_one_le (f := fun s => sL k L F (upN σ0 a s)) (fun s _ => sL_nn h) (h1 a List.mem_cons_self))
    by_cases z : b = a
    · rw [z, upN_s]
    · rw [upN_n z]
      exact h2 b (fun q => (List.mem_cons.mp q).elim z hb)
/-! ===== minors, over whole numbers ===== -/
def sgX (X c : Nat) : Int := if bitsN (X / 2 ^ (c + 1)) 6 % 2 = 0 then 1 else -1
def dt (E : Nat → Nat → Int) (M : Nat) : Nat → Nat → Int
  | 0, _ => 1
  | p + 1, X => sI (fun c => if X / 2 ^ c % 2 = 1 then sgX X c * (E p c * dt E M p (X - 2 ^ c)) else 0) M
theorem bits0 : ∀ X, X < 32 → bitsN X 6 = 0 → X = 0 := by decide +kernel
theorem bitsS : ∀ c, c < 5 → ∀ X, X < 32 → X / 2 ^ c % 2 = 1 → bitsN (X - 2 ^ c) 6 + 1 = bitsN X 6 := by decide +kernel
theorem ofI0 : lN 0 = Int64.ofInt 0 := by decide +kernel
theorem ofI1 : lN 1 = Int64.ofInt 1 := by decide +kernel
theorem ofIn (n : Nat) : lN n = Int64.ofInt (n : Int) := Int64.ofInt_eq_ofNat.symm
theorem sumL_ofI {F : Nat → Int64} {G : Nat → Int} : ∀ {n : Nat}, (∀ c, c < n → F c = Int64.ofInt (G c)) → sumL F n = Int64.ofInt (sI G n) := by
  intro n
  induction n with
  | zero => intro _; exact ofI0
  | succ n ih =>
    intro h
    show sumL F n + F n = Int64.ofInt (sI G n + G n)
    rw [ih (fun c hc => h c (by omega)), h n (by omega), Int64.ofInt_add]
theorem mv_dt {E : Nat → Nat → Int64} {EI : Nat → Nat → Int} {M : Nat} (hM : M ≤ 5) (h : ∀ i c, i < M → c < M → E i c = Int64.ofInt (EI i c)) : ∀ p X, X < 2 ^ M → bitsN X 6 = p → mv E M X = Int64.ofInt (dt EI M p X) := by
  have h32 : 2 ^ M ≤ 2 ^ 5 := Nat.pow_le_pow_right (by decide) hM
  intro p
  induction p with
  | zero =>
    intro X hX hb
    rw [bits0 X (by omega) hb, mv_0]
    exact ofI1
  | succ p ih =>
    intro X hX hb
    have h9 : bitsN 0 6 = 0 := by decide +kernel
    have hX0 : 0 < X := Nat.pos_of_ne_zero (fun e => by subst e; omega)
    have hpM : p < M := by
      have := bits_n M (by omega) X (by omega) hX
      omega
    rw [mv_s hX0 (by omega) hM]
    refine sumL_ofI (fun c hc => ?_)
    unfold mtm
    by_cases b : X / 2 ^ c % 2 = 1
    · rw [if_pos b, if_pos b]
      have h1 := bitsS c (by omega) X (by omega) b
      have e1 : bitsN X 6 - 1 = p := by omega
      have h2p := Nat.two_pow_pos c
      rw [e1, h p c hpM hc, ih (X - 2 ^ c) (by omega) (by omega)]
      unfold sgX
      by_cases z : bitsN (X / 2 ^ (c + 1)) 6 % 2 = 0
      · rw [if_pos z, if_pos z, Int.one_mul, Int64.ofInt_mul]
      · rw [if_neg z, if_neg z, Int.neg_mul, Int.one_mul, Int64.ofInt_neg, Int64.ofInt_mul]
    · rw [if_neg b, if_neg b]
      exact ofI0
theorem dt_congr {E E' : Nat → Nat → Int} {M : Nat} : ∀ p X, (∀ i c, i < p → c < M → E i c = E' i c) → dt E M p X = dt E' M p X := by
  intro p
  induction p with
  | zero => intro X _; rfl
  | succ p ih =>
    intro X h
    refine sI_congr (fun c hc => ?_)
    rw [h p c (Nat.lt_succ_self p) hc, ih (X - 2 ^ c) (fun i c hi hc => h i c (by omega) hc)]
/-- the rows of a list -/
def Lr (r : Nat → Nat) : Nat → List Nat
  | 0 => []
  | p + 1 => r p :: Lr r p
theorem Lr_mem {r : Nat → Nat} {b : Nat} : ∀ {p : Nat}, b ∈ Lr r p ↔ ∃ i, i < p ∧ r i = b := by
  intro p
  induction p with
  | zero => exact ⟨fun h => absurd h List.not_mem_nil, fun ⟨i, h, _⟩ => absurd h (Nat.not_lt_zero i)⟩
  | succ p ih =>
    show b ∈ r p :: Lr r p ↔ _
    rw [List.mem_cons, ih]
    constructor
    · rintro (h | ⟨i, h1, h2⟩)
      · exact ⟨p, Nat.lt_succ_self p, h.symm⟩
      · exact ⟨i, by omega, h2⟩
    · rintro ⟨i, h1, h2⟩
      by_cases z : i = p
      · subst z; exact Or.inl h2.symm
      · exact Or.inr ⟨i, by omega, h2⟩
theorem Lr_len {r : Nat → Nat} : ∀ p, (Lr r p).length = p := by
  intro p
  induction p with
  | zero => rfl
  | succ p ih => show (r p :: Lr r p).length = _; rw [List.length_cons, ih]
/-- row by row: a minor of rows that are sums is the sum of the minors -/
theorem dt_lin {k M : Nat} {D : Nat → Nat → Nat → Int} {r : Nat → Nat} (hr : ∀ i j, r i = r j → i = j) : ∀ p X (σ0 : Nat → Nat), dt (fun i c => sI (fun s => D i s c) k) M p X = sL k (Lr r p) (fun σ => dt (fun i c => D i (σ (r i)) c) M p X) σ0 := by
  intro p
  induction p with
  | zero => intro X σ0; rfl
  | succ p ih =>
    intro X σ0
    have hnot : r p ∉ Lr r p := fun h => by
      obtain ⟨i, h1, h2⟩ := Lr_mem.mp h
      have := hr i p h2
      omega
    have e1 : ∀ s, s < k → sL k (Lr r p) (fun σ => dt (fun i c => D i (σ (r i)) c) M (p + 1) X) (upN σ0 (r p) s) = sI (fun c => if X / 2 ^ c % 2 = 1 then sgX X c * (D p s c * dt (fun i c => sI (fun s => D i s c) k) M p (X - 2 ^ c)) else 0) M := by
      intro s _
      rw [sL_congr (F' := fun σ => sI (fun c => if X / 2 ^ c % 2 = 1 then sgX X c * (D p s c * dt (fun i c => D i (σ (r i)) c) M p (X - 2 ^ c)) else 0) M) (fun σ _ h2 => by
        have e : σ (r p) = s := by rw [h2 _ hnot, upN_s]
        show sI (fun c => if X / 2 ^ c % 2 = 1 then sgX X c * (D p (σ (r p)) c * dt (fun i c => D i (σ (r i)) c) M p (X - 2 ^ c)) else 0) M = _
        rw [e]), sL_sI]
      refine sI_congr (fun c _ => ?_)
      by_cases b : X / 2 ^ c % 2 = 1
      · simp only [if_pos b]
        rw [sL_mul, sL_mul, ← ih (X - 2 ^ c) (upN σ0 (r p) s)]
      · simp only [if_neg b]
        exact sL_z
    show sI (fun c => if X / 2 ^ c % 2 = 1 then sgX X c * (sI (fun s => D p s c) k * dt (fun i c => sI (fun s => D i s c) k) M p (X - 2 ^ c)) else 0) M = sI (fun s => sL k (Lr r p) (fun σ => dt (fun i c => D i (σ (r i)) c) M (p + 1) X) (upN σ0 (r p) s)) k
    rw [sI_congr e1, sI_swap]
    refine sI_congr (fun c _ => ?_)
    by_cases b : X / 2 ^ c % 2 = 1
    · simp only [if_pos b]
      rw [sI_mul, sI_mulr]
    · simp only [if_neg b]
      rw [sI_zero]
/-! ===== the minor of one choice of slots: 1 if it is a tree, else 0 ===== -/
def dh (h : Nat → Nat) (M : Nat) : Nat → Nat → Int
  | 0, _ => 1
  | p + 1, X => if h p = p then 0 else (if X / 2 ^ p % 2 = 1 then sgX X p * dh h M p (X - 2 ^ p) else 0) - (if h p < M then (if X / 2 ^ h p % 2 = 1 then sgX X (h p) * dh h M p (X - 2 ^ h p) else 0) else 0)
theorem pk2 {a b c : Nat} {V : Nat → Int} : V c * ((if a = c then 1 else 0) - (if b = c then 1 else 0)) = (if c = a then V a else 0) - (if c = b then V b else 0) := by
  by_cases y : a = c
  · subst y
    by_cases z : b = a
    · subst z; simp
    · rw [if_pos rfl, if_neg z, if_pos rfl, if_neg (Ne.symm z)]; simp
  · by_cases z : b = c
    · subst z; rw [if_neg y, if_pos rfl, if_neg (Ne.symm y), if_pos rfl]; simp
    · rw [if_neg y, if_neg z, if_neg (Ne.symm y), if_neg (Ne.symm z)]; simp
theorem dt_dh {h : Nat → Nat} {M : Nat} : ∀ p X, p ≤ M → dt (fun i c => (if i = c then 1 else 0) - (if h i = c then 1 else 0)) M p X = dh h M p X := by
  intro p
  induction p with
  | zero => intro X _; rfl
  | succ p ih =>
    intro X hp
    have e : sI (fun c => if X / 2 ^ c % 2 = 1 then sgX X c * (((if p = c then 1 else 0) - (if h p = c then 1 else 0)) * dt (fun i c => (if i = c then 1 else 0) - (if h i = c then 1 else 0)) M p (X - 2 ^ c)) else 0) M = sI (fun c => (if c = p then (if X / 2 ^ p % 2 = 1 then sgX X p * dh h M p (X - 2 ^ p) else 0) else 0) - (if c = h p then (if X / 2 ^ h p % 2 = 1 then sgX X (h p) * dh h M p (X - 2 ^ h p) else 0) else 0)) M := by
      refine sI_congr (fun c _ => ?_)
      rw [ih (X - 2 ^ c) (by omega), ← pk2 (V := fun c => if X / 2 ^ c % 2 = 1 then sgX X c * dh h M p (X - 2 ^ c) else 0)]
      by_cases b : X / 2 ^ c % 2 = 1
      · simp only [if_pos b]
        rw [Int.mul_comm _ (dh h M p (X - 2 ^ c)), ← Int.mul_assoc]
      · simp only [if_neg b]
        rw [Int.zero_mul]
    show sI _ M = if h p = p then 0 else _
    rw [e, sI_sub, sI_one (by omega)]
    by_cases z : h p = p
    · rw [if_pos z, z, sI_one (by omega)]
      exact Int.sub_self _
    · rw [if_neg z]
      by_cases y : h p < M
      · rw [if_pos y, sI_one y]
      · rw [if_neg y, sI_congr (f' := fun _ => 0) (fun c hc => if_neg (by omega)), sI_zero]
theorem dh_congr {h h' : Nat → Nat} {M : Nat} : ∀ p X, (∀ i, i < p → h i = h' i) → dh h M p X = dh h' M p X := by
  intro p
  induction p with
  | zero => intro X _; rfl
  | succ p ih =>
    intro X hh
    have e := hh p (Nat.lt_succ_self p)
    have i1 := fun Y => ih Y (fun i hi => hh i (by omega))
    show (if h p = p then 0 else (if X / 2 ^ p % 2 = 1 then sgX X p * dh h M p (X - 2 ^ p) else 0) - (if h p < M then (if X / 2 ^ h p % 2 = 1 then sgX X (h p) * dh h M p (X - 2 ^ h p) else 0) else 0)) = _
    rw [e, i1, i1]
    rfl
/-- on from i, the root is M -/
def nxt (h : Nat → Nat) (M j : Nat) : Nat := if j < M then h j else M
def itr (h : Nat → Nat) (M : Nat) : Nat → Nat → Nat
  | 0, i => i
  | t + 1, i => nxt h M (itr h M t i)
def trb (h : Nat → Nat) (M : Nat) : Bool := allB (fun i => decide (itr h M M i = M)) M
def okh (M : Nat) (l : List Nat) : Bool := decide (dh (fun i => l.getD i 0) M M (2 ^ M - 1) = if trb (fun i => l.getD i 0) M = true then 1 else 0)
theorem bf0 : okh 0 [] = true := by decide +kernel
theorem bf1 : ∀ a, a < 2 → okh 1 [a] = true := by decide +kernel
theorem bf2 : ∀ a, a < 3 → ∀ b, b < 3 → okh 2 [a, b] = true := by decide +kernel
theorem bf3 : ∀ a, a < 4 → ∀ b, b < 4 → ∀ c, c < 4 → okh 3 [a, b, c] = true := by decide +kernel
theorem bf4 : ∀ a, a < 5 → ∀ b, b < 5 → ∀ c, c < 5 → ∀ d, d < 5 → okh 4 [a, b, c, d] = true := by decide +kernel
theorem bf50 : ∀ b, b < 6 → ∀ c, c < 6 → ∀ d, d < 6 → ∀ e, e < 6 → okh 5 [0, b, c, d, e] = true := by decide +kernel
theorem bf51 : ∀ b, b < 6 → ∀ c, c < 6 → ∀ d, d < 6 → ∀ e, e < 6 → okh 5 [1, b, c, d, e] = true := by decide +kernel
theorem bf52 : ∀ b, b < 6 → ∀ c, c < 6 → ∀ d, d < 6 → ∀ e, e < 6 → okh 5 [2, b, c, d, e] = true := by decide +kernel
theorem bf53 : ∀ b, b < 6 → ∀ c, c < 6 → ∀ d, d < 6 → ∀ e, e < 6 → okh 5 [3, b, c, d, e] = true := by decide +kernel
theorem bf54 : ∀ b, b < 6 → ∀ c, c < 6 → ∀ d, d < 6 → ∀ e, e < 6 → okh 5 [4, b, c, d, e] = true := by decide +kernel
theorem bf55 : ∀ b, b < 6 → ∀ c, c < 6 → ∀ d, d < 6 → ∀ e, e < 6 → okh 5 [5, b, c, d, e] = true := by decide +kernel
