/-! ===== the hall of the law: what it knows of the chain, slot by slot ===== -/
/-- one slot leads elsewhere -/
def g2 (g : Nat → Nat → Nat) (i j w : Nat) : Nat → Nat → Nat := fun x y => if x = i ∧ y = j then w else g x y
theorem g2_s {g : Nat → Nat → Nat} {i j w : Nat} : g2 g i j w i j = w := if_pos ⟨rfl, rfl⟩
theorem g2_n {g : Nat → Nat → Nat} {i j w x y : Nat} (h : ¬ (x = i ∧ y = j)) : g2 g i j w x y = g x y := if_neg h
theorem g2_o {g : Nat → Nat → Nat} {i j w x : Nat} (h : x ≠ i) : g2 g i j w x = g x := funext fun y => g2_n (fun z => h z.1)
theorem cnt_congr {f f' : Nat → Nat} {y : Nat} : ∀ K, (∀ s, s < K → f s = f' s) → cnt f y K = cnt f' y K := by
  intro K
  induction K with
  | zero => intro _; rfl
  | succ K ih =>
    intro h
    rw [cnt_s, cnt_s, ih (fun s hs => h s (by omega)), h K (by omega)]
theorem cnt_const {i y : Nat} : ∀ K, cnt (fun _ => i) y K = if i = y then K else 0 := by
  intro K
  induction K with
  | zero => show 0 = _; split <;> rfl
  | succ K ih =>
    rw [cnt_s, ih]
    by_cases z : i = y
    · rw [if_pos z, if_pos z, if_pos z]
    · rw [if_neg z, if_neg z, if_neg z]
theorem cnt_g2 {g : Nat → Nat → Nat} {i j w y : Nat} : ∀ K, j < K → cnt (g2 g i j w i) y K + (if g i j = y then 1 else 0) = cnt (g i) y K + (if w = y then 1 else 0) := by
  intro K
  induction K with
  | zero => intro h; omega
  | succ K ih =>
    intro h
    rw [cnt_s, cnt_s]
    by_cases z : j = K
    · subst z
      rw [g2_s, cnt_congr (f := g2 g i j w i) (f' := g i) j (fun s hs => g2_n (by omega))]
      omega
    · have a := ih (by omega)
      rw [g2_n (g := g) (i := i) (j := j) (w := w) (x := i) (y := K) (by omega)]
      omega
theorem G_step {n k i j w : Nat} {g : Nat → Nat → Nat} {fG : Nat → Nat → Int32} (h : ∀ x y, x < n → y < k → fG x y = nI (g x y)) : ∀ x y, x < n → y < k → va_up fG i (upd (fG i) j (nI w)) x y = nI (g2 g i j w x y) := by
  intro x y hx hy
  by_cases e : x = i
  · subst e
    rw [va_up_self]
    by_cases z : y = j
    · subst z; rw [pk_us, g2_s]
    · rw [pk_un z, g2_n (by omega)]; exact h _ y hx hy
  · rw [va_up_ne _ _ e, g2_o e]; exact h x y hx hy
theorem g2_lt {n k i j w : Nat} {g : Nat → Nat → Nat} (hw : w < n) (h : ∀ x y, x < n → y < k → g x y < n) : ∀ x y, x < n → y < k → g2 g i j w x y < n := by
  intro x y hx hy
  unfold g2
  split
  · exact hw
  · exact h x y hx hy
/-- the class's own rows -/
def LC (n k : Nat) (g : Nat → Nat → Nat) (col : Nat → Nat) (fG fW : Nat → Nat → Int32) (fPy fCc fp : Nat → Int32) : Prop :=
  (1 ≤ n ∧ n ≤ 6 ∧ 1 ≤ k ∧ k ≤ 10) ∧ (∀ i j, i < n → j < k → fG i j = nI (g i j)) ∧ (∀ i j, i < n → j < k → g i j < n) ∧ (∀ i j, i < n → j < n → fW i j = nI (cnt (g i) j k)) ∧ (∀ q, q < 6 → fPy q = fp q ∧ inR (fp q) (-100000) (nI 100000) = true) ∧ (∀ q, q < 6 → fCc q = fp (6 + q) ∧ fp (6 + q) = nI (col q) ∧ col q < 6)
/-- the law's own row of leads -/
def LL (n k : Nat) (g : Nat → Nat → Nat) (fl : Nat → Int32) : Prop := ∀ i j, i < n → j < k → fl (10 * i + j) = nI (g i j)
def LH (n k : Nat) (g : Nat → Nat → Nat) (col : Nat → Nat) (fG fW : Nat → Nat → Int32) (fPy fCc fl fp : Nat → Int32) : Prop := LC n k g col fG fW fPy fCc fp ∧ LL n k g fl
theorem T_step {n k i j w : Nat} {g : Nat → Nat → Nat} {f : Nat → Int32} (hk : k ≤ 10) (hj : j < 10) (h : LL n k g f) : LL n k (g2 g i j w) (upd f (10 * i + j) (nI w)) := by
  intro x y hx hy
  by_cases e : x = i ∧ y = j
  · obtain ⟨rfl, rfl⟩ := e
    rw [pk_us, g2_s]
  · rw [pk_un (by omega), g2_n e]; exact h x y hx hy
theorem LC_lead {n k : Nat} {g : Nat → Nat → Nat} {col : Nat → Nat} {fG fW : Nat → Nat → Int32} {fPy fCc fp : Nat → Int32} (hI : LC n k g col fG fW fPy fCc fp) {i j w : Nat} (hi : i < n) (hj : j < k) (hw : w < n) :
    LC n k (g2 g i j w) col (va_up fG i (upd (fG i) j (nI w))) (va_up (va_up fW i (upd (fW i) (g i j) (fW i (g i j) - nI 1))) i (upd ((va_up fW i (upd (fW i) (g i j) (fW i (g i j) - nI 1))) i) w (((va_up fW i (upd (fW i) (g i j) (fW i (g i j) - nI 1))) i w) + nI 1))) fPy fCc fp := by
  obtain ⟨hb, hG, hgn, hW, hPy, hC⟩ := hI
  refine ⟨hb, G_step hG, g2_lt hw hgn, fun x y hx hy => ?_, hPy, hC⟩
  by_cases e : x = i
  · subst e
    rw [va_up_self, va_up_self]
    have ec := cnt_g2 (g := g) (i := x) (w := w) (y := y) k hj
    by_cases z : y = w
    · subst z
      rw [pk_us]
      by_cases q : y = g x j
      · rw [← q, pk_us, Int32.sub_add_cancel, hW x y hx hy]
        rw [← q, if_pos rfl] at ec
        exact congrArg nI (by omega)
      · rw [pk_un q, hW x y hx hy, nI_add]
        rw [if_neg (fun z => q z.symm), if_pos rfl] at ec
        exact congrArg nI (by omega)
    · rw [pk_un z]
      by_cases q : y = g x j
      · rw [← q, pk_us, hW x y hx hy]
        rw [← q, if_pos rfl, if_neg (Ne.symm z)] at ec
        have e2 : cnt (g x) y k = cnt (g2 g x j w x) y k + 1 := by omega
        rw [e2, ← nI_add, Int32.add_sub_cancel]
      · rw [pk_un q, hW x y hx hy]
        rw [if_neg (fun z => q z.symm), if_neg (Ne.symm z)] at ec
        exact congrArg nI (by omega)
  · rw [va_up_ne _ _ e, va_up_ne _ _ e, g2_o e]; exact hW x y hx hy
theorem LC_swap {n k : Nat} {g : Nat → Nat → Nat} {col : Nat → Nat} {fG fW : Nat → Nat → Int32} {fPy fCc fp : Nat → Int32} (hI : LC n k g col fG fW fPy fCc fp) {i j w : Nat} (hi : i < n) (hj : j < k) (hw : w < k) :
    LC n k (g2 (g2 g i j (g i w)) i w (g i j)) col (va_up (va_up fG i (upd (fG i) j (nI (g i w)))) i (upd ((va_up fG i (upd (fG i) j (nI (g i w)))) i) w (nI (g i j)))) fW fPy fCc fp := by
  obtain ⟨hb, hG, hgn, hW, hPy, hC⟩ := hI
  refine ⟨hb, G_step (G_step hG), g2_lt (hgn i j hi hj) (g2_lt (hgn i w hi hw) hgn), fun x y hx hy => ?_, hPy, hC⟩
  rw [hW x y hx hy]
  by_cases e : x = i
  · subst e
    have e1 := cnt_g2 (g := g) (i := x) (w := g x w) (y := y) k hj
    have e2 := cnt_g2 (g := g2 g x j (g x w)) (i := x) (j := w) (w := g x j) (y := y) k hw
    have e3 : g2 g x j (g x w) x w = g x w := by
      by_cases z : w = j
      · subst z; exact g2_s
      · exact g2_n (fun q => z q.2)
    rw [e3] at e2
    exact congrArg nI (by omega)
  · rw [g2_o e, g2_o e]
theorem LC_pay {n k : Nat} {g : Nat → Nat → Nat} {col : Nat → Nat} {fG fW : Nat → Nat → Int32} {fPy fCc fp : Nat → Int32} (hI : LC n k g col fG fW fPy fCc fp) {i : Nat} {v : Int32} (hi : i < 6) (hv : inR v (-100000) (nI 100000) = true) : LC n k g col fG fW (upd fPy i v) fCc (upd fp i v) := by
  obtain ⟨hb, hG, hgn, hW, hPy, hC⟩ := hI
  refine ⟨hb, hG, hgn, hW, fun q hq => ?_, fun q hq => ?_⟩
  · by_cases e : q = i
    · subst e; rw [pk_us, pk_us]; exact ⟨rfl, hv⟩
    · rw [pk_un e, pk_un e]; exact hPy q hq
  · rw [pk_un (by omega)]; exact hC q hq
theorem LC_col {n k : Nat} {g : Nat → Nat → Nat} {col : Nat → Nat} {fG fW : Nat → Nat → Int32} {fPy fCc fp : Nat → Int32} (hI : LC n k g col fG fW fPy fCc fp) {i z : Nat} (hz : z < 6) : LC n k g (fun q => if q = i then z else col q) fG fW fPy (upd fCc i (nI z)) (upd fp (6 + i) (nI z)) := by
  obtain ⟨hb, hG, hgn, hW, hPy, hC⟩ := hI
  refine ⟨hb, hG, hgn, hW, fun q hq => ?_, fun q hq => ?_⟩
  · rw [pk_un (by omega)]; exact hPy q hq
  · by_cases e : q = i
    · subst e
      rw [pk_us, pk_us]
      show nI z = nI z ∧ nI z = nI (if q = q then z else col q) ∧ (if q = q then z else col q) < 6
      rw [if_pos rfl]
      exact ⟨rfl, rfl, hz⟩
    · rw [pk_un e, pk_un (by omega)]
      show fCc q = fp (6 + q) ∧ fp (6 + q) = nI (if q = i then z else col q) ∧ (if q = i then z else col q) < 6
      rw [if_neg e]
      exact hC q hq
theorem LC_begin {n k : Nat} {fG fW : Nat → Nat → Int32} {fPy fCc fp : Nat → Int32} (h1 : 1 ≤ n) (h2 : n ≤ 6) (h3 : 1 ≤ k) (h4 : k ≤ 10) (hG : ∀ i j, i < 6 → j < 12 → fG i j = nI i) (hW : ∀ i j, i < 6 → j < 6 → fW i j = (if i = j then nI k else nI 0)) (hPy : ∀ j, j < 6 → fPy j = nI 0) (hCc : ∀ j, j < 6 → fCc j = nI 0) (hp : ∀ j, j < 12 → fp j = nI 0) : LC n k (fun i _ => i) (fun _ => 0) fG fW fPy fCc fp := by
  refine ⟨⟨h1, h2, h3, h4⟩, fun i j hi hj => hG i j (by omega) (by omega), fun i j hi hj => hi, fun i j hi hj => ?_, fun q hq => ?_, fun q hq => ?_⟩
  · rw [hW i j (by omega) (by omega), cnt_const]
    by_cases z : i = j
    · rw [if_pos z, if_pos z]
    · rw [if_neg z, if_neg z]
  · rw [hPy q hq, hp q (by omega)]; exact ⟨rfl, by decide⟩
  · rw [hCc q hq, hp (6 + q) (by omega)]; exact ⟨rfl, rfl, Nat.succ_pos 5⟩
/-- while the leads are told: those told stand in the law's row, the others go on to themselves -/
def LSt (n k : Nat) (g : Nat → Nat → Nat) (fl : Nat → Int32) (u w : Nat) : Prop := (∀ i j, i < n → j < k → (i < u ∨ i = u ∧ j < w) → fl (10 * i + j) = nI (g i j)) ∧ ∀ i j, i < n → j < k → ¬ (i < u ∨ i = u ∧ j < w) → g i j = i
theorem LSt_0 {n k : Nat} {fl : Nat → Int32} : LSt n k (fun i _ => i) fl 0 0 := ⟨fun i j _ _ h => by omega, fun i j _ _ _ => rfl⟩
theorem LSt_n {n k u w : Nat} {g : Nat → Nat → Nat} {fl : Nat → Int32} (hw : w = k) (h : LSt n k g fl u w) : LSt n k g fl (u + 1) 0 := by
  subst hw
  exact ⟨fun i j hi hj hc => h.1 i j hi hj (by omega), fun i j hi hj hc => h.2 i j hi hj (by omega)⟩
theorem LSt_s {n k u w y : Nat} {g : Nat → Nat → Nat} {fl : Nat → Int32} (hk : k ≤ 10) (hw : w < k) (h : LSt n k g fl u w) : LSt n k (g2 g u w y) (upd fl (10 * u + w) (nI y)) u (w + 1) := by
  refine ⟨fun i j hi hj hc => ?_, fun i j hi hj hc => ?_⟩
  · by_cases e : i = u ∧ j = w
    · obtain ⟨rfl, rfl⟩ := e
      rw [pk_us, g2_s]
    · rw [pk_un (by omega), g2_n e]; exact h.1 i j hi hj (by omega)
  · rw [g2_n (by omega)]; exact h.2 i j hi hj (by omega)
theorem LSt_e {n k u w : Nat} {g : Nat → Nat → Nat} {fl : Nat → Int32} (hu : u = n) (h : LSt n k g fl u w) : LL n k g fl := fun i j hi hj => h.1 i j hi hj (Or.inl (by omega))
/-- what all halls know at each step -/
def LPq (n k : Nat) (fG fW : Nat → Nat → Int32) (fPy fCc fl fp : Nat → Int32) : Prop := ∃ g col, LH n k g col fG fW fPy fCc fl fp
