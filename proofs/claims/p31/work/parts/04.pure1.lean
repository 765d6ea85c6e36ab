-- ===== sums =====
theorem sm_congr {f f' : Nat → Nat} {n : Nat} (h : ∀ i, i < n → f i = f' i) : sm f n = sm f' n := by
  induction n with
  | zero => rfl
  | succ n ih => unfold sm; rw [ih (fun i hi => h i (by omega)), h n (by omega)]
theorem sm_zero {n : Nat} : sm (fun _ => 0) n = 0 := by
  induction n with
  | zero => rfl
  | succ n ih => unfold sm; rw [ih]
theorem sm_add {f f' : Nat → Nat} {n : Nat} : sm (fun i => f i + f' i) n = sm f n + sm f' n := by
  induction n with
  | zero => rfl
  | succ n ih => unfold sm; rw [ih]; omega
theorem sm_mul {f : Nat → Nat} {c n : Nat} : sm (fun i => c * f i) n = c * sm f n := by
  induction n with
  | zero => rfl
  | succ n ih => unfold sm; rw [ih, Nat.mul_add]
theorem sm_mulr {f : Nat → Nat} {c n : Nat} : sm (fun i => f i * c) n = sm f n * c := by
  induction n with
  | zero => unfold sm; rw [Nat.zero_mul]
  | succ n ih => unfold sm; rw [ih, Nat.add_mul]
theorem sm_swap {f : Nat → Nat → Nat} {n m : Nat} : sm (fun i => sm (fun j => f i j) m) n = sm (fun j => sm (fun i => f i j) n) m := by
  induction n with
  | zero =>
    show 0 = sm (fun j => 0) m
    rw [sm_zero]
  | succ n ih =>
    show sm (fun i => sm (fun j => f i j) m) n + sm (fun j => f n j) m = sm (fun j => sm (fun i => f i j) n + f n j) m
    rw [ih, sm_add]
theorem sm_le {f : Nat → Nat} {n i : Nat} (h : i < n) : f i ≤ sm f n := by
  induction n with
  | zero => omega
  | succ n ih =>
    unfold sm
    by_cases e : i = n
    · subst e; omega
    · have := ih (by omega); omega
theorem sm_one {n b c : Nat} (h : b < n) : sm (fun i => if i = b then c else 0) n = c := by
  induction n with
  | zero => omega
  | succ n ih =>
    unfold sm
    by_cases e : b = n
    · subst e
      rw [if_pos rfl, sm_congr (f' := fun _ => 0) (fun i hi => if_neg (by omega)), sm_zero, Nat.zero_add]
    · rw [ih (by omega), if_neg (by omega), Nat.add_zero]
theorem sm_cnt {f : Nat → Nat} {n k : Nat} (h : ∀ s, s < k → f s < n) : sm (fun b => cnt f b k) n = k := by
  induction k with
  | zero => exact sm_zero
  | succ k ih =>
    unfold cnt
    rw [sm_add, ih (fun s hs => h s (by omega))]
    have e : sm (fun b => if f k = b then 1 else 0) n = 1 := by
      rw [sm_congr (f' := fun i => if i = f k then 1 else 0) (fun i _ => by simp only [eq_comm])]
      exact sm_one (h k (by omega))
    rw [e]
-- ===== rows of the reference: keeps, begins =====
def KI (f0 : Nat → Int64) (q : Nat) (fN fT : Nat → Int64) : Prop := (∀ j, j < 64 → fN j = if j < q then lN 0 else f0 j) ∧ ∀ j, j < q → fT j = f0 j
theorem KI_0 {f0 fT : Nat → Int64} : KI f0 0 f0 fT := ⟨fun j _ => by rw [if_neg (by omega)], fun j h => by omega⟩
theorem KI_s {f0 fN fT : Nat → Int64} {q : Nat} (h : KI f0 q fN fT) (hq : q < 64) : KI f0 (q + 1) (vp_updL fN q (lN 0)) (vp_updL fT q (fN q)) := by
  refine ⟨fun j hj => ?_, fun j hj => ?_⟩
  · by_cases e : j = q
    · subst e; rw [pk_uLs, if_pos (by omega)]
    · rw [pk_uLn e, h.1 j hj]
      by_cases z : j < q
      · rw [if_pos z, if_pos (by omega)]
      · rw [if_neg z, if_neg (by omega)]
  · by_cases e : j = q
    · subst e; rw [pk_uLs, h.1 j hq, if_neg (by omega)]
    · rw [pk_uLn e]; exact h.2 j (by omega)
theorem KI_e {f0 fN fT : Nat → Int64} {q : Nat} (h : KI f0 q fN fT) (hq : 64 ≤ q) : ∀ j, j < 64 → fN j = lN 0 ∧ fT j = f0 j := fun j hj => ⟨by rw [h.1 j hj, if_pos (by omega)], h.2 j (by omega)⟩
def BI (x : Int32) (q : Nat) (fN : Nat → Int64) : Prop := ∀ j, j < q → fN j = lN (if nI j = x then 1 else 0)
theorem BI_0 {x : Int32} {fN : Nat → Int64} : BI x 0 fN := fun j h => by omega
theorem BI_s {x : Int32} {q c : Nat} {fN : Nat → Int64} (h : BI x q fN) (hc : (if nI q = x then 1 else 0) = c) : BI x (q + 1) (vp_updL fN q (lN c)) := by
  intro j hj
  by_cases e : j = q
  · subst e; rw [pk_uLs, hc]
  · rw [pk_uLn e]; exact h j (by omega)
-- ===== laws =====
def PL (g : Nat → Nat → Nat) (n k f : Nat) : Nat → Nat → Nat
  | 0, b => if b = f then 1 else 0
  | t + 1, b => sm (fun c => PL g n k f t c * cnt (g c) b k) n
def acc (v : Nat → Nat) (g : Nat → Nat → Nat) (k b : Nat) : Nat → Nat
  | 0 => 0
  | q + 1 => acc v g k b q + (if g (q / k) (q % k) = b then v (q / k) else 0)
theorem acc_row {v : Nat → Nat} {g : Nat → Nat → Nat} {k b c : Nat} (hk : 0 < k) : ∀ s, s ≤ k → acc v g k b (k * c + s) = acc v g k b (k * c) + v c * cnt (g c) b s := by
  intro s
  induction s with
  | zero => intro _; show acc v g k b (k * c) = _ + v c * 0; omega
  | succ s ih =>
    intro hs
    have e1 : (k * c + s) / k = c := by rw [Nat.mul_add_div hk, Nat.div_eq_of_lt (by omega)]; rfl
    have e2 : (k * c + s) % k = s := by rw [Nat.mul_add_mod, Nat.mod_eq_of_lt (by omega)]
    show acc v g k b (k * c + s) + (if g ((k * c + s) / k) ((k * c + s) % k) = b then v ((k * c + s) / k) else 0) = _ + v c * (cnt (g c) b s + if g c s = b then 1 else 0)
    rw [ih (by omega), e1, e2, Nat.mul_add]
    by_cases z : g c s = b
    · rw [if_pos z, if_pos z]; omega
    · rw [if_neg z, if_neg z]; omega
theorem acc_end {v : Nat → Nat} {g : Nat → Nat → Nat} {k b : Nat} (hk : 0 < k) (n : Nat) : acc v g k b (k * n) = sm (fun c => v c * cnt (g c) b k) n := by
  induction n with
  | zero => rfl
  | succ n ih =>
    rw [Nat.mul_succ, acc_row hk k (Nat.le_refl k), ih]; rfl
def AI (v : Nat → Nat) (g : Nat → Nat → Nat) (k n q : Nat) (fN : Nat → Int64) : Prop := ∀ b, b < n → fN b = lN (acc v g k b q)
theorem AI_0 {v : Nat → Nat} {g : Nat → Nat → Nat} {k n : Nat} {fN : Nat → Int64} (h : ∀ b, b < n → fN b = lN 0) : AI v g k n 0 fN := h
theorem AI_s {v : Nat → Nat} {g : Nat → Nat → Nat} {k n q : Nat} {fN : Nat → Int64} {x : Int64} (h : AI v g k n q fN) (hx : x = lN (v (q / k))) (hg : g (q / k) (q % k) < n) : AI v g k n (q + 1) (vp_updL fN (g (q / k) (q % k)) (fN (g (q / k) (q % k)) + x)) := by
  intro b hb
  show _ = lN (acc v g k b q + if g (q / k) (q % k) = b then v (q / k) else 0)
  by_cases e : g (q / k) (q % k) = b
  · subst e; rw [pk_uLs, h _ hb, hx, lN_add, if_pos rfl]
  · rw [pk_uLn (fun z => e z.symm), h _ hb, if_neg e]; rfl
theorem AI_e {g : Nat → Nat → Nat} {k n f t : Nat} {fN : Nat → Int64} (hk : 0 < k) (h : AI (PL g n k f t) g k n (n * k) fN) : ∀ b, b < n → fN b = lN (PL g n k f (t + 1) b) := by
  intro b hb
  rw [h b hb, Nat.mul_comm, acc_end hk n]; rfl
theorem PL_sum {g : Nat → Nat → Nat} {n k f : Nat} (hg : ∀ i j, i < n → j < k → g i j < n) (hf : f < n) (t : Nat) : sm (PL g n k f t) n = k ^ t := by
  induction t with
  | zero => exact sm_one hf
  | succ t ih =>
    show sm (fun b => sm (fun c => PL g n k f t c * cnt (g c) b k) n) n = k ^ t * k
    rw [sm_swap, sm_congr (f' := fun c => PL g n k f t c * k) (fun c hc => by rw [sm_mul, sm_cnt (fun s hs => hg c s hc hs)]), sm_mulr, ← ih]
theorem PL_le {g : Nat → Nat → Nat} {n k f t b : Nat} (hg : ∀ i j, i < n → j < k → g i j < n) (hf : f < n) (hb : b < n) : PL g n k f t b ≤ k ^ t := by
  rw [← PL_sum hg hf t]; exact sm_le (f := PL g n k f t) hb
theorem pow_b {k t : Nat} (hk : k ≤ 12) (hk1 : 1 ≤ k) (ht : t ≤ 12) : k ^ t ≤ 8916100448256 :=
  Nat.le_trans (Nat.pow_le_pow_left hk t) (Nat.le_trans (Nat.pow_le_pow_right (by decide) ht) (by decide))
/-- the distance of two laws -/
def dst (a b : Nat → Nat) (n : Nat) : Nat := sm (fun c => a c - b c) n
def CI (fO fN : Nat → Int64) (q : Nat) : Prop := ∀ j, j < q → fO j = fN j
theorem CI_0 {fO fN : Nat → Int64} : CI fO fN 0 := fun j h => by omega
theorem CI_s {fO fN : Nat → Int64} {q : Nat} (h : CI fO fN q) : CI (vp_updL fO q (fN q)) fN (q + 1) := by
  intro j hj
  by_cases e : j = q
  · subst e; rw [pk_uLs]
  · rw [pk_uLn e]; exact h j (by omega)
