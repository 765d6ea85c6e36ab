-- ===== the class: laws =====
def GI (v : Nat → Nat) (g : Nat → Nat → Nat) (n k f u : Nat) (f0 fX : Nat → Int64) : Prop := (∀ j, j < u → fX (6 * f + j) = lN (sm (fun d => v d * cnt (g d) j k) n)) ∧ ∀ q, q < 6 * f ∨ 6 * f + 6 ≤ q → fX q = f0 q
theorem GI_0 {v : Nat → Nat} {g : Nat → Nat → Nat} {n k f : Nat} {f0 : Nat → Int64} : GI v g n k f 0 f0 f0 := ⟨fun j h => by omega, fun q _ => rfl⟩
theorem GI_s {v : Nat → Nat} {g : Nat → Nat → Nat} {n k f u : Nat} {f0 fX : Nat → Int64} {x : Int64} (h : GI v g n k f u f0 fX) (hu : u < 6) (hx : x = lN (sm (fun d => v d * cnt (g d) u k) n)) : GI v g n k f (u + 1) f0 (vp_updL fX (6 * f + u) x) := by
  refine ⟨fun j hj => ?_, fun q hq => ?_⟩
  · by_cases e : j = u
    · subst e; rw [pk_uLs, hx]
    · rw [pk_uLn (by omega)]; exact h.1 j (by omega)
  · rw [pk_uLn (by omega)]; exact h.2 q hq
def RT (g : Nat → Nat → Nat) (n k u : Nat) (fR : Nat → Nat → Int64) : Prop := ∀ w, w ≤ u → ∀ i j, i < n → j < n → fR w (6 * i + j) = lN (PL g n k i w j)
def R0 (n i j : Nat) (f : Nat → Int64) : Prop := (∀ i' j', i' < i → j' < n → f (6 * i' + j') = lN (if j' = i' then 1 else 0)) ∧ ∀ j', j' < j → f (6 * i + j') = lN (if j' = i then 1 else 0)
theorem R0_0 {n : Nat} {f : Nat → Int64} : R0 n 0 0 f := ⟨fun i j h => by omega, fun j h => by omega⟩
theorem R0_s {n i j x : Nat} {f : Nat → Int64} (hn : n ≤ 6) (hj : j < n) (h : R0 n i j f) (hx : (if j = i then 1 else 0) = x) : R0 n i (j + 1) (vp_updL f (6 * i + j) (lN x)) := by
  refine ⟨fun i' j' hi' hj' => ?_, fun j' hj' => ?_⟩
  · rw [pk_uLn (by omega)]; exact h.1 i' j' hi' hj'
  · by_cases e : j' = j
    · subst e; rw [pk_uLs, hx]
    · rw [pk_uLn (by omega)]; exact h.2 j' (by omega)
theorem R0_n {n i : Nat} {f : Nat → Int64} (h : R0 n i n f) : R0 n (i + 1) 0 f := by
  refine ⟨fun i' j' hi' hj' => ?_, fun j' h => by omega⟩
  by_cases e : i' = i
  · subst e; exact h.2 j' hj'
  · exact h.1 i' j' (by omega) hj'
theorem RT_0 {g : Nat → Nat → Nat} {n k : Nat} {fR : Nat → Nat → Int64} (h : R0 n n 0 (fR 0)) : RT g n k 0 fR := fun w hw i j hi hj => by
  have : w = 0 := by omega
  subst this
  exact h.1 i j hi hj
def RU (g : Nat → Nat → Nat) (n k u i : Nat) (fR : Nat → Nat → Int64) : Prop := RT g n k u fR ∧ ∀ i' j, i' < i → j < n → fR (u + 1) (6 * i' + j) = lN (PL g n k i' (u + 1) j)
theorem RU_0 {g : Nat → Nat → Nat} {n k u : Nat} {fR : Nat → Nat → Int64} (h : RT g n k u fR) : RU g n k u 0 fR := ⟨h, fun i j h => by omega⟩
theorem RU_s {g : Nat → Nat → Nat} {n k u i : Nat} {fR : Nat → Nat → Int64} {f2 : Nat → Int64} (hn : n ≤ 6) (h : RU g n k u i fR) (h2 : GI (PL g n k i u) g n k i n (fR (u + 1)) f2) : RU g n k u (i + 1) (va_up fR (u + 1) f2) := by
  refine ⟨fun w hw i' j hi hj => ?_, fun i' j hi hj => ?_⟩
  · rw [va_up_ne _ _ (by omega)]; exact h.1 w hw i' j hi hj
  · rw [va_up_self]
    by_cases e : i' = i
    · subst e; exact h2.1 j hj
    · rw [h2.2 _ (by omega)]; exact h.2 i' j (by omega) hj
theorem RU_e {g : Nat → Nat → Nat} {n k u : Nat} {fR : Nat → Nat → Int64} (h : RU g n k u n fR) : RT g n k (u + 1) fR := by
  intro w hw i j hi hj
  by_cases e : w = u + 1
  · subst e; exact h.2 i j hi hj
  · exact h.1 w (by omega) i j hi hj
theorem lN_subT {A B : Nat} (ha : A < 2 ^ 62) (hb : B < 2 ^ 62) : (lN A - lN B).toInt = (A : Int) - B := by
  rw [Int64.toInt_sub, pk_lT (by omega), pk_lT (by omega), Int.bmod_def]
  split <;> omega
theorem mxd {A B : Nat} (ha : A < 2 ^ 62) (hb : B < 2 ^ 62) : (if lN 0 < lN A - lN B then lN A - lN B else lN 0) = lN (A - B) := by
  by_cases h : B ≤ A
  · rw [lN_sub h]
    by_cases z : A - B = 0
    · rw [z]; split <;> rfl
    · rw [if_pos ((pk_lLT (by decide) (by omega)).mpr (by omega))]
  · have e : ¬ lN 0 < lN A - lN B := by
      rw [Int64.lt_iff_toInt_lt, lN_subT ha hb, pk_lT (by decide)]
      omega
    rw [if_neg e, show A - B = 0 by omega]
def mixA (g : Nat → Nat → Nat) (n k th t : Nat) : Bool := allB (fun u => allB (fun w => !decide (u < w) || mixC g n k th t u w) n) n
theorem mixA_t {g : Nat → Nat → Nat} {n k th t : Nat} (h : ∀ u w, u < w → w < n → mixC g n k th t u w = true) : mixA g n k th t = true := by
  refine allB_iff.mpr (fun u hu => allB_iff.mpr (fun w hw => ?_))
  by_cases z : u < w
  · rw [h u w z hw, Bool.or_true]
  · rw [decide_eq_false z]; rfl
theorem mixA_f {g : Nat → Nat → Nat} {n k th t u w : Nat} (h1 : u < w) (h2 : w < n) (h : mixC g n k th t u w = false) : mixA g n k th t = false := by
  cases e : mixA g n k th t with
  | false => rfl
  | true =>
    have := allB_iff.mp (allB_iff.mp e u (by omega)) w h2
    rw [decide_eq_true h1, h] at this
    cases this
theorem mixA_iff {g : Nat → Nat → Nat} {n k th t : Nat} : mixA g n k th t = true ↔ ∀ u w, u < w → w < n → mixC g n k th t u w = true := by
  refine ⟨fun e u w h1 h2 => ?_, mixA_t⟩
  have := allB_iff.mp (allB_iff.mp e u (by omega)) w h2
  rw [decide_eq_true h1] at this
  exact this
-- hits
def HB (g : Nat → Nat → Nat) (n k b : Nat) : Nat → Nat → Nat
  | 0, i => if i = b then 1 else 0
  | t + 1, i => if i = b then k ^ (t + 1) else sm (fun d => cnt (g i) d k * HB g n k b t d) n
theorem sumL_lN {F : Nat → Int64} {v : Nat → Nat} {n : Nat} (h : ∀ i, i < n → F i = lN (v i)) : sumL F n = lN (sm v n) := by
  induction n with
  | zero => rfl
  | succ n ih =>
    show sumL F n + F n = lN (sm v n + v n)
    rw [ih (fun i hi => h i (by omega)), h n (by omega), lN_add]
theorem HB_b {g : Nat → Nat → Nat} {n k b t : Nat} : HB g n k b t b = k ^ t := by
  cases t with
  | zero => show (if b = b then 1 else 0) = _; rw [if_pos rfl]; rfl
  | succ t => show (if b = b then k ^ (t + 1) else _) = _; rw [if_pos rfl]
def HT_ (g : Nat → Nat → Nat) (n k b u i : Nat) (fH : Nat → Nat → Int64) : Prop := (∀ w, w < u → ∀ d, d < n → fH w d = lN (HB g n k b w d)) ∧ ∀ d, d < i → fH u d = lN (HB g n k b u d)
theorem HT_0 {g : Nat → Nat → Nat} {n k b : Nat} {fH : Nat → Nat → Int64} : HT_ g n k b 0 0 fH := ⟨fun w h => by omega, fun d h => by omega⟩
theorem HT_s {g : Nat → Nat → Nat} {n k b u i : Nat} {fH : Nat → Nat → Int64} (h : HT_ g n k b u i fH) : HT_ g n k b u (i + 1) (va_up fH u (vp_updL (fH u) i (lN (HB g n k b u i)))) := by
  refine ⟨fun w hw d hd => ?_, fun d hd => ?_⟩
  · rw [va_up_ne _ _ (by omega)]; exact h.1 w hw d hd
  · rw [va_up_self]
    by_cases e : d = i
    · subst e; rw [pk_uLs]
    · rw [pk_uLn e]; exact h.2 d (by omega)
theorem HT_n {g : Nat → Nat → Nat} {n k b u : Nat} {fH : Nat → Nat → Int64} (h : HT_ g n k b u n fH) : HT_ g n k b (u + 1) 0 fH := by
  refine ⟨fun w hw d hd => ?_, fun d h => by omega⟩
  by_cases e : w = u
  · subst e; exact h.2 d hd
  · exact h.1 w (by omega) d hd
-- apart
def AB (g : Nat → Nat → Nat) (k : Nat) : Nat → Nat → Nat → Nat
  | 0, i, j => if i = j then 0 else 1
  | t + 1, i, j => if i = j then 0 else sm (fun s => AB g k t (g i s) (g j s)) k
def AT_ (g : Nat → Nat → Nat) (n k u i j : Nat) (fA : Nat → Nat → Int64) : Prop := (∀ w, w < u → ∀ x y, x < n → y < n → fA w (6 * x + y) = lN (AB g k w x y)) ∧ (∀ x y, x < i → y < n → fA u (6 * x + y) = lN (AB g k u x y)) ∧ ∀ y, y < j → fA u (6 * i + y) = lN (AB g k u i y)
theorem AT_0 {g : Nat → Nat → Nat} {n k : Nat} {fA : Nat → Nat → Int64} : AT_ g n k 0 0 0 fA := ⟨fun w h => by omega, fun x y h => by omega, fun y h => by omega⟩
theorem AT_s {g : Nat → Nat → Nat} {n k u i j : Nat} {fA : Nat → Nat → Int64} (hn : n ≤ 6) (hj : j < n) (h : AT_ g n k u i j fA) : AT_ g n k u i (j + 1) (va_up fA u (vp_updL (fA u) (6 * i + j) (lN (AB g k u i j)))) := by
  refine ⟨fun w hw x y hx hy => ?_, fun x y hx hy => ?_, fun y hy => ?_⟩
  · rw [va_up_ne _ _ (by omega)]; exact h.1 w hw x y hx hy
  · rw [va_up_self, pk_uLn (by omega)]; exact h.2.1 x y hx hy
  · rw [va_up_self]
    by_cases e : y = j
    · subst e; rw [pk_uLs]
    · rw [pk_uLn (by omega)]; exact h.2.2 y (by omega)
theorem AT_j {g : Nat → Nat → Nat} {n k u i : Nat} {fA : Nat → Nat → Int64} (h : AT_ g n k u i n fA) : AT_ g n k u (i + 1) 0 fA := by
  refine ⟨h.1, fun x y hx hy => ?_, fun y h => by omega⟩
  by_cases e : x = i
  · subst e; exact h.2.2 y hy
  · exact h.2.1 x y (by omega) hy
theorem AT_i {g : Nat → Nat → Nat} {n k u : Nat} {fA : Nat → Nat → Int64} (h : AT_ g n k u n 0 fA) : AT_ g n k (u + 1) 0 0 fA := by
  refine ⟨fun w hw x y hx hy => ?_, fun x y h => by omega, fun y h => by omega⟩
  by_cases e : w = u
  · subst e; exact h.2.1 x y hx hy
  · exact h.1 w (by omega) x y hx hy
-- crowds
theorem and_bt : ∀ i, i < 6 → ∀ X, X < 64 → (X &&& 2 ^ i ≠ 0 ↔ X / 2 ^ i % 2 = 1) := by decide +kernel
theorem and_b0 : ∀ i, i < 6 → ∀ X, X < 64 → (X &&& 2 ^ i = 0 ↔ ¬ X / 2 ^ i % 2 = 1) := by decide +kernel
theorem img_t {g : Nat → Nat → Nat} {s X q : Nat} (h : X / 2 ^ q % 2 = 1) : img g s X q ||| 2 ^ (g q s) = img g s X (q + 1) := by
  show _ = img g s X q ||| (if _ then _ else _); rw [if_pos h]
theorem img_f {g : Nat → Nat → Nat} {s X q : Nat} (h : ¬ X / 2 ^ q % 2 = 1) : img g s X q = img g s X (q + 1) := by
  show _ = img g s X q ||| (if _ then _ else _); rw [if_neg h, Nat.or_zero]
def MV (g : Nat → Nat → Nat) (n X w : Nat) (x : Int64) (f0 fX : Nat → Int64) : Prop := ∀ Y, Y < 64 → fX Y = f0 Y + x * lN (cnt (ig g n X) Y w)
theorem MV_0 {g : Nat → Nat → Nat} {n X : Nat} {x : Int64} {f0 : Nat → Int64} : MV g n X 0 x f0 f0 := fun Y _ => by
  show f0 Y = f0 Y + x * lN 0
  rw [show lN 0 = 0 from rfl, Int64.mul_zero, Int64.add_zero]
theorem MV_s {g : Nat → Nat → Nat} {n X w : Nat} {x : Int64} {f0 fX : Nat → Int64} (h : MV g n X w x f0 fX) (hg : ig g n X w < 64) : MV g n X (w + 1) x f0 (vp_updL fX (ig g n X w) (fX (ig g n X w) + x)) := by
  intro Y hY
  show _ = f0 Y + x * lN (cnt (ig g n X) Y w + if ig g n X w = Y then 1 else 0)
  by_cases e : Y = ig g n X w
  · subst e
    rw [pk_uLs, h _ hY, if_pos rfl, ← lN_add, Int64.mul_add, Int64.add_assoc, show lN 1 = 1 from rfl, Int64.mul_one]
  · rw [pk_uLn e, h _ hY, if_neg (fun z => e z.symm), Nat.add_zero]
theorem MV_z {g : Nat → Nat → Nat} {n X k : Nat} {x : Int64} {f0 : Nat → Int64} (hx : x = lN 0) : MV g n X k x f0 f0 := fun Y _ => by
  rw [hx, show lN 0 = 0 from rfl, Int64.zero_mul, Int64.add_zero]
theorem RI_mv {v : Nat → Nat} {g : Nat → Nat → Nat} {k n X : Nat} {f0 f1 : Nat → Int64} {x : Int64} (h : RI v (ig g n) k 64 X 0 f0) (h1 : MV g n X k x f0 f1) (hx : x = lN (v X)) : RI v (ig g n) k 64 (X + 1) 0 f1 := by
  intro Y hY
  rw [h1 Y hY, h Y hY, hx, lN_mul, lN_add]
  rfl
theorem sm_ext {f : Nat → Nat} {n m : Nat} (hnm : n ≤ m) (h : ∀ i, n ≤ i → i < m → f i = 0) : sm f m = sm f n := by
  induction m with
  | zero => have : n = 0 := by omega
            rw [this]
  | succ m ih =>
    by_cases e : n = m + 1
    · rw [e]
    · show sm f m + f m = _
      rw [h m (by omega) (by omega), ih (by omega) (fun i h1 h2 => h i h1 (by omega)), Nat.add_zero]
theorem img_lt2 {g : Nat → Nat → Nat} {s X n : Nat} (hg : ∀ i, i < n → g i s < n) : ∀ q, q ≤ n → img g s X q < 2 ^ n := by
  intro q
  induction q with
  | zero => intro _; exact Nat.two_pow_pos n
  | succ q ih =>
    intro hq
    refine Nat.or_lt_two_pow (ih (by omega)) ?_
    split
    · exact Nat.pow_lt_pow_right (by decide) (hg q (by omega))
    · exact Nat.two_pow_pos n
theorem img_pos {g : Nat → Nat → Nat} {s X : Nat} : ∀ n, (∃ i, i < n ∧ X / 2 ^ i % 2 = 1) → 0 < img g s X n := by
  intro n
  induction n with
  | zero => rintro ⟨i, h, _⟩; omega
  | succ n ih =>
    rintro ⟨i, hi, hb⟩
    show 0 < img g s X n ||| (if X / 2 ^ n % 2 = 1 then 2 ^ (g n s) else 0)
    by_cases e : i = n
    · subst e
      rw [if_pos hb]
      have h1 : 2 ^ (g i s) ≤ img g s X i ||| 2 ^ (g i s) := Nat.right_le_or
      have h2 := Nat.two_pow_pos (g i s)
      omega
    · have h1 := ih ⟨i, by omega, hb⟩
      have h2 : img g s X n ≤ img g s X n ||| (if X / 2 ^ n % 2 = 1 then 2 ^ (g n s) else 0) := Nat.left_le_or
      omega
theorem has_bit : ∀ n, n ≤ 6 → ∀ X, X < 64 → 0 < X → X < 2 ^ n → ∃ i, i < n ∧ X / 2 ^ i % 2 = 1 := by decide +kernel
theorem ts_sup {g : Nat → Nat → Nat} {n k : Nat} (hg : ∀ i j, i < n → j < k → g i j < n) (hn1 : 1 ≤ n) (hn : n ≤ 6) : ∀ t Y, Y < 64 → PL (ig g n) 64 k (2 ^ n - 1) t Y ≠ 0 → 0 < Y ∧ Y < 2 ^ n := by
  intro t
  induction t with
  | zero =>
    intro Y hY h
    have e : Y = 2 ^ n - 1 := by
      by_cases e : Y = 2 ^ n - 1
      · exact e
      · exact absurd (show PL (ig g n) 64 k (2 ^ n - 1) 0 Y = 0 from if_neg e) h
    have h1 : 2 ^ 1 ≤ 2 ^ n := Nat.pow_le_pow_right (by decide) hn1
    omega
  | succ t ih =>
    intro Y hY h
    have h1 : ∃ d, d < 64 ∧ PL (ig g n) 64 k (2 ^ n - 1) t d ≠ 0 ∧ cnt (ig g n d) Y k ≠ 0 := by
      apply Classical.byContradiction
      intro hno
      apply h
      show sm (fun d => PL (ig g n) 64 k (2 ^ n - 1) t d * cnt (ig g n d) Y k) 64 = 0
      rw [sm_congr (f' := fun _ => 0) (fun d hd => ?_), sm_zero]
      by_cases z : PL (ig g n) 64 k (2 ^ n - 1) t d = 0
      · rw [z, Nat.zero_mul]
      · by_cases w : cnt (ig g n d) Y k = 0
        · rw [w, Nat.mul_zero]
        · exact absurd ⟨d, hd, z, w⟩ hno
    obtain ⟨d, hd, z, w⟩ := h1
    obtain ⟨ha, hb⟩ := ih d hd z
    have h2 : ∀ q, q ≤ k → cnt (ig g n d) Y q ≠ 0 → ∃ s, s < k ∧ ig g n d s = Y := by
      intro q
      induction q with
      | zero => intro _ h; exact absurd rfl h
      | succ q ihq =>
        intro hq h
        by_cases e : ig g n d q = Y
        · exact ⟨q, by omega, e⟩
        · exact ihq (by omega) (fun e2 => h (by show cnt (ig g n d) Y q + (if ig g n d q = Y then 1 else 0) = 0; rw [e2, if_neg e]))
    obtain ⟨s, hs, e⟩ := h2 k (Nat.le_refl k) w
    rw [← e]
    exact ⟨img_pos n (has_bit n hn d hd ha hb), img_lt2 (fun i hi => hg i s hi hs) n (Nat.le_refl n)⟩
theorem TS_e {g : Nat → Nat → Nat} {n k t : Nat} {f : Nat → Int64} (hg : ∀ i j, i < n → j < k → g i j < n) (hn1 : 1 ≤ n) (hn : n ≤ 6) (h2n : 2 ^ n ≤ 64) (h : RI (PL (ig g n) 64 k (2 ^ n - 1) t) (ig g n) k 64 (2 ^ n) 0 f) : ∀ Y, Y < 64 → f Y = lN (PL (ig g n) 64 k (2 ^ n - 1) (t + 1) Y) := by
  intro Y hY
  rw [h Y hY, show cnt (ig g n (2 ^ n)) Y 0 = 0 from rfl, Nat.mul_zero, Nat.add_zero]
  refine congrArg lN ?_
  show _ = sm (fun d => PL (ig g n) 64 k (2 ^ n - 1) t d * cnt (ig g n d) Y k) 64
  refine (sm_ext h2n (fun i h1 h2 => ?_)).symm
  have : PL (ig g n) 64 k (2 ^ n - 1) t i = 0 := by
    apply Classical.byContradiction
    intro z
    have := ts_sup hg hn1 hn t i h2 z
    omega
  rw [this, Nat.zero_mul]
theorem TS_1 {g : Nat → Nat → Nat} {n k t : Nat} {f : Nat → Int64} (hg : ∀ i j, i < n → j < k → g i j < n) (hn1 : 1 ≤ n) (hn : n ≤ 6) (h : ∀ Y, Y < 64 → f Y = lN 0) : RI (PL (ig g n) 64 k (2 ^ n - 1) t) (ig g n) k 64 1 0 f := by
  intro Y hY
  have z : PL (ig g n) 64 k (2 ^ n - 1) t 0 = 0 := by
    apply Classical.byContradiction
    intro z
    have := ts_sup hg hn1 hn t 0 (by omega) z
    omega
  rw [h Y hY, show cnt (ig g n 1) Y 0 = 0 from rfl, Nat.mul_zero, Nat.add_zero]
  show lN 0 = lN (0 + PL (ig g n) 64 k (2 ^ n - 1) t 0 * _)
  rw [z, Nat.zero_mul]
