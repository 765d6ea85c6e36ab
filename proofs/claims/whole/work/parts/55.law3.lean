/-! ===== the law: what both sides hold ===== -/
def LB (cY : Nat → ClassId) (b : Nat → Nat) (rr : Nat → Nat → Nat) (a : Nat → Nat) (oo od n k n9 k9 : Nat) (fG fW : Nat → Nat → Int32) (fR fH fA fS : Nat → Nat → Int64) (fRs : Nat → Int64) (fOt : Nat → Int32) (fMi : Nat → Int64) (fEn fEb fPy : Nat → Int32) (fB : Nat → Nat → Int64) (fCc : Nat → Int32) (th : Int32) (fto fpay fcol : Nat → Int32) (fnow fthn foth fmnr fwts : Nat → Int64) (fmap fnxt : Nat → Int32) (fO : Nat → Int64) (fE : Nat → UInt64) : List va_W :=
  [hO b, cO b (nI n) (nI k), oQ (cY 2) (b 2) (rr 0) 6, gI (cY 0) (rr 0) 12 fG 6, oQ (cY 2) (b 3) (rr 1) 6, gI (cY 0) (rr 1) 6 fW 6,
   lO b, oQ (cY 3) (b 5) (rr 2) 13, gJ (cY 1) (rr 2) 36 fR 13, oQ (cY 3) (b 6) (rr 3) 13, gJ (cY 1) (rr 3) 6 fH 13,
   kO b, oQ (cY 3) (b 8) (rr 4) 13, gJ (cY 1) (rr 4) 36 fA 13, oQ (cY 3) (b 9) (rr 5) 13, gJ (cY 1) (rr 5) 64 fS 13,
   sO b, tO b, [(b 12, .inl (cY 1, 6, .inr (.inl fRs)))], [(b 13, .inl (cY 0, 6, .inl fOt))], [(b 14, .inl (cY 1, 32, .inr (.inl fMi)))],
   dO b, [(b 16, .inl (cY 0, 6, .inl fEn))], [(b 17, .inl (cY 0, 6, .inl fEb))],
   gO b, [(b 19, .inl (cY 0, 6, .inl fPy))], oQ (cY 3) (b 20) (rr 6) 13, gJ (cY 1) (rr 6) 6 fB 13,
   uO b, [(b 22, .inl (cY 0, 6, .inl fCc))],
   mO a (nI n9) (nI k9) th, [(a 1, .inl (cY 0, 72, .inl fto))], [(a 2, .inl (cY 0, 6, .inl fpay))], [(a 3, .inl (cY 0, 6, .inl fcol))],
   [(a 4, .inl (cY 1, 64, .inr (.inl fnow)))], [(a 5, .inl (cY 1, 64, .inr (.inl fthn)))], [(a 6, .inl (cY 1, 6, .inr (.inl foth)))],
   [(a 7, .inl (cY 1, 32, .inr (.inl fmnr)))], [(a 8, .inl (cY 1, 25, .inr (.inl fwts)))], [(a 9, .inl (cY 0, 6, .inl fmap))], [(a 10, .inl (cY 0, 6, .inl fnxt))],
   [(oo, .inl (cY 1, 1, .inr (.inl fO)))], [(od, .inl (cY 4, 1, .inr (.inr (.inr (.inl fE)))))]]
/-- what ties the two sides -/
def LV (n k : Nat) (g : Nat → Nat → Nat) (col : Nat → Nat) (fG fW : Nat → Nat → Int32) (fPy fCc fto fpay fcol : Nat → Int32) : Prop :=
  (1 ≤ n ∧ n ≤ 6 ∧ 1 ≤ k ∧ k ≤ 12) ∧ (∀ i j, i < n → j < k → fG i j = nI (g i j)) ∧ (∀ i j, i < n → j < k → g i j < n) ∧ (∀ i j, i < n → j < n → fW i j = nI (cnt (g i) j k)) ∧ (∀ i j, i < n → j < k → fto (12 * i + j) = nI (g i j)) ∧ (∀ q, q < 6 → fPy q = fpay q ∧ inR (fpay q) (-100000) (nI 100000) = true) ∧ (∀ q, q < 6 → fCc q = fcol q ∧ fcol q = nI (col q) ∧ col q < 6)
/-- one slot leads elsewhere -/
def g2 (g : Nat → Nat → Nat) (i j w : Nat) : Nat → Nat → Nat := fun x y => if x = i ∧ y = j then w else g x y
theorem g2_s {g : Nat → Nat → Nat} {i j w : Nat} : g2 g i j w i j = w := if_pos ⟨rfl, rfl⟩
theorem g2_n {g : Nat → Nat → Nat} {i j w x y : Nat} (h : ¬ (x = i ∧ y = j)) : g2 g i j w x y = g x y := if_neg h
theorem g2_o {g : Nat → Nat → Nat} {i j w x : Nat} (h : x ≠ i) : g2 g i j w x = g x := funext fun y => g2_n (fun z => h z.1)
theorem cnt_congr {f f' : Nat → Nat} {y : Nat} : ∀ K, (∀ s, s < K → f s = f' s) → cnt f y K = cnt f' y K := by
  intro K
  induction K with
  | zero => intro _; rfl
  | succ K ih =>
    intro h
    rw [cnt_s, cnt_s, ih (fun s hs => h s (by omega)), h K (by omega)]
theorem cnt_const {i y : Nat} : ∀ K, cnt (fun _ => i) y K = if i = y then K else 0 := by
  intro K
  induction K with
  | zero => show 0 = _; split <;> rfl
  | succ K ih =>
    rw [cnt_s, ih]
    by_cases z : i = y
    · rw [if_pos z, if_pos z, if_pos z]
    · rw [if_neg z, if_neg z, if_neg z]
theorem cnt_g2 {g : Nat → Nat → Nat} {i j w y : Nat} : ∀ K, j < K → cnt (g2 g i j w i) y K + (if g i j = y then 1 else 0) = cnt (g i) y K + (if w = y then 1 else 0) := by
  intro K
  induction K with
  | zero => intro h; omega
  | succ K ih =>
    intro h
    rw [cnt_s, cnt_s]
    by_cases z : j = K
    · subst z
      rw [g2_s, cnt_congr (f := g2 g i j w i) (f' := g i) j (fun s hs => g2_n (by omega))]
      omega
    · have a := ih (by omega)
      rw [g2_n (g := g) (i := i) (j := j) (w := w) (x := i) (y := K) (by omega)]
      omega
theorem G_step {n k i j w : Nat} {g : Nat → Nat → Nat} {fG : Nat → Nat → Int32} (h : ∀ x y, x < n → y < k → fG x y = nI (g x y)) : ∀ x y, x < n → y < k → va_up fG i (upd (fG i) j (nI w)) x y = nI (g2 g i j w x y) := by
  intro x y hx hy
  by_cases e : x = i
  · subst e
    rw [va_up_self]
    by_cases z : y = j
    · subst z; rw [pk_us, g2_s]
    · rw [pk_un z, g2_n (by omega)]; exact h _ y hx hy
  · rw [va_up_ne _ _ e, g2_o e]; exact h x y hx hy
theorem T_step {n k i j w : Nat} {g : Nat → Nat → Nat} {f : Nat → Int32} (hk : k ≤ 12) (hj : j < 12) (h : ∀ x y, x < n → y < k → f (12 * x + y) = nI (g x y)) : ∀ x y, x < n → y < k → upd f (12 * i + j) (nI w) (12 * x + y) = nI (g2 g i j w x y) := by
  intro x y hx hy
  by_cases e : x = i ∧ y = j
  · obtain ⟨rfl, rfl⟩ := e
    rw [pk_us, g2_s]
  · rw [pk_un (by omega), g2_n e]; exact h x y hx hy
theorem g2_lt {n k i j w : Nat} {g : Nat → Nat → Nat} (hw : w < n) (h : ∀ x y, x < n → y < k → g x y < n) : ∀ x y, x < n → y < k → g2 g i j w x y < n := by
  intro x y hx hy
  unfold g2
  split
  · exact hw
  · exact h x y hx hy
theorem LV_lead {n k : Nat} {g : Nat → Nat → Nat} {col : Nat → Nat} {fG fW : Nat → Nat → Int32} {fPy fCc fto fpay fcol : Nat → Int32} (hI : LV n k g col fG fW fPy fCc fto fpay fcol) {i j w : Nat} (hi : i < n) (hj : j < k) (hw : w < n) :
    LV n k (g2 g i j w) col (va_up fG i (upd (fG i) j (nI w))) (va_up (va_up fW i (upd (fW i) (g i j) (fW i (g i j) - nI 1))) i (upd ((va_up fW i (upd (fW i) (g i j) (fW i (g i j) - nI 1))) i) w (((va_up fW i (upd (fW i) (g i j) (fW i (g i j) - nI 1))) i w) + nI 1))) fPy fCc (upd fto (12 * i + j) (nI w)) fpay fcol := by
  obtain ⟨hb, hG, hgn, hW, hT, hPy, hC⟩ := hI
  refine ⟨hb, G_step hG, g2_lt hw hgn, fun x y hx hy => ?_, T_step hb.2.2.2 (by omega) hT, hPy, hC⟩
  by_cases e : x = i
  · subst e
    rw [va_up_self, va_up_self]
    have ec := cnt_g2 (g := g) (i := x) (w := w) (y := y) k hj
    by_cases z : y = w
    · subst z
      rw [pk_us]
      by_cases q : y = g x j
      · rw [← q, pk_us, Int32.sub_add_cancel, hW x y hx hy]
        rw [← q, if_pos rfl] at ec
        exact congrArg nI (by omega)
      · rw [pk_un q, hW x y hx hy, nI_add]
        rw [if_neg (fun z => q z.symm), if_pos rfl] at ec
        exact congrArg nI (by omega)
    · rw [pk_un z]
      by_cases q : y = g x j
      · rw [← q, pk_us, hW x y hx hy]
        rw [← q, if_pos rfl, if_neg (Ne.symm z)] at ec
        have e2 : cnt (g x) y k = cnt (g2 g x j w x) y k + 1 := by omega
        rw [e2, ← nI_add, Int32.add_sub_cancel]
      · rw [pk_un q, hW x y hx hy]
        rw [if_neg (fun z => q z.symm), if_neg (Ne.symm z)] at ec
        exact congrArg nI (by omega)
  · rw [va_up_ne _ _ e, va_up_ne _ _ e, g2_o e]; exact hW x y hx hy
theorem LV_swap {n k : Nat} {g : Nat → Nat → Nat} {col : Nat → Nat} {fG fW : Nat → Nat → Int32} {fPy fCc fto fpay fcol : Nat → Int32} (hI : LV n k g col fG fW fPy fCc fto fpay fcol) {i j w : Nat} (hi : i < n) (hj : j < k) (hw : w < k) :
    LV n k (g2 (g2 g i j (g i w)) i w (g i j)) col (va_up (va_up fG i (upd (fG i) j (nI (g i w)))) i (upd ((va_up fG i (upd (fG i) j (nI (g i w)))) i) w (nI (g i j)))) fW fPy fCc (upd (upd fto (12 * i + j) (nI (g i w))) (12 * i + w) (nI (g i j))) fpay fcol := by
  obtain ⟨hb, hG, hgn, hW, hT, hPy, hC⟩ := hI
  refine ⟨hb, G_step (G_step hG), g2_lt (hgn i j hi hj) (g2_lt (hgn i w hi hw) hgn), fun x y hx hy => ?_, T_step hb.2.2.2 (by omega) (T_step hb.2.2.2 (by omega) hT), hPy, hC⟩
  rw [hW x y hx hy]
  by_cases e : x = i
  · subst e
    have e1 := cnt_g2 (g := g) (i := x) (w := g x w) (y := y) k hj
    have e2 := cnt_g2 (g := g2 g x j (g x w)) (i := x) (j := w) (w := g x j) (y := y) k hw
    have e3 : g2 g x j (g x w) x w = g x w := by
      by_cases z : w = j
      · subst z; exact g2_s
      · exact g2_n (fun q => z q.2)
    rw [e3] at e2
    exact congrArg nI (by omega)
  · rw [g2_o e, g2_o e]
theorem LV_pay {n k : Nat} {g : Nat → Nat → Nat} {col : Nat → Nat} {fG fW : Nat → Nat → Int32} {fPy fCc fto fpay fcol : Nat → Int32} (hI : LV n k g col fG fW fPy fCc fto fpay fcol) {i : Nat} {v : Int32} (hv : inR v (-100000) (nI 100000) = true) : LV n k g col fG fW (upd fPy i v) fCc fto (upd fpay i v) fcol := by
  obtain ⟨hb, hG, hgn, hW, hT, hPy, hC⟩ := hI
  refine ⟨hb, hG, hgn, hW, hT, fun q hq => ?_, hC⟩
  by_cases e : q = i
  · subst e; rw [pk_us, pk_us]; exact ⟨rfl, hv⟩
  · rw [pk_un e, pk_un e]; exact hPy q hq
theorem LV_col {n k : Nat} {g : Nat → Nat → Nat} {col : Nat → Nat} {fG fW : Nat → Nat → Int32} {fPy fCc fto fpay fcol : Nat → Int32} (hI : LV n k g col fG fW fPy fCc fto fpay fcol) {i : Nat} {v : Int32} (hv : inR v (nI 0) (nI 5) = true) : ∃ col2, LV n k g col2 fG fW fPy (upd fCc i v) fto fpay (upd fcol i v) := by
  obtain ⟨hb, hG, hgn, hW, hT, hPy, hC⟩ := hI
  obtain ⟨z, hz, rfl⟩ := inR_of (by omega) hv
  refine ⟨fun q => if q = i then z else col q, hb, hG, hgn, hW, hT, hPy, fun q hq => ?_⟩
  by_cases e : q = i
  · subst e
    rw [pk_us, pk_us]
    show nI z = nI z ∧ nI z = nI (if q = q then z else col q) ∧ (if q = q then z else col q) < 6
    rw [if_pos rfl]
    exact ⟨rfl, rfl, by omega⟩
  · rw [pk_un e, pk_un e]
    show fCc q = fcol q ∧ fcol q = nI (if q = i then z else col q) ∧ (if q = i then z else col q) < 6
    rw [if_neg e]
    exact hC q hq
theorem LV_begin {n k : Nat} {fG fW : Nat → Nat → Int32} {fPy fCc fto fpay fcol : Nat → Int32} (h1 : 1 ≤ n) (h2 : n ≤ 6) (h3 : 1 ≤ k) (h4 : k ≤ 12) (hG : ∀ i j, i < 6 → j < 12 → fG i j = nI i) (hW : ∀ i j, i < 6 → j < 6 → fW i j = (if i = j then nI k else nI 0)) (hPy : ∀ j, j < 6 → fPy j = nI 0) (hCc : ∀ j, j < 6 → fCc j = nI 0) (hT : ∀ i j, i < 6 → j < 12 → fto (12 * i + j) = nI i) (hp : ∀ j, j < 6 → fpay j = nI 0) (hc : ∀ j, j < 6 → fcol j = nI 0) : LV n k (fun i _ => i) (fun _ => 0) fG fW fPy fCc fto fpay fcol := by
  refine ⟨⟨h1, h2, h3, h4⟩, fun i j hi hj => hG i j (by omega) (by omega), fun i j hi hj => hi, fun i j hi hj => ?_, fun i j hi hj => hT i j (by omega) (by omega), fun q hq => ?_, fun q hq => ?_⟩
  · rw [hW i j (by omega) (by omega), cnt_const]
    by_cases z : i = j
    · rw [if_pos z, if_pos z]
    · rw [if_neg z, if_neg z]
  · rw [hPy q hq, hp q hq]; exact ⟨rfl, by decide⟩
  · rw [hCc q hq, hc q hq]; exact ⟨rfl, rfl, Nat.succ_pos 5⟩
/-! pays alike below n -/
theorem BV_congr {fp fp' : Nat → Int32} {g : Nat → Nat → Nat} {n k : Nat} (hg : ∀ i j, i < n → j < k → g i j < n) (h : ∀ q, q < n → fp q = fp' q) : ∀ t i, i < n → BV fp g k t i = BV fp' g k t i := by
  intro t
  induction t with
  | zero => intro i hi; show (fp i).toInt64 = (fp' i).toInt64; rw [h i hi]
  | succ t ih =>
    intro i hi
    show (if (fp i).toInt64 * lN (k ^ (t + 1)) < sumL (fun s => BV fp g k t (g i s)) k then sumL (fun s => BV fp g k t (g i s)) k else (fp i).toInt64 * lN (k ^ (t + 1))) = (if (fp' i).toInt64 * lN (k ^ (t + 1)) < sumL (fun s => BV fp' g k t (g i s)) k then sumL (fun s => BV fp' g k t (g i s)) k else (fp' i).toInt64 * lN (k ^ (t + 1)))
    rw [h i hi, sumL_congr (f := fun s => BV fp g k t (g i s)) (f' := fun s => BV fp' g k t (g i s)) (fun s hs => ih _ (hg i s hi hs))]
theorem GV_congr {fp fp' : Nat → Int32} {g : Nat → Nat → Nat} {n k : Nat} (hg : ∀ i j, i < n → j < k → g i j < n) (h : ∀ q, q < n → fp q = fp' q) (t i : Nat) (hi : i < n) : GV fp g k t i = GV fp' g k t i := by
  cases t with
  | zero => show (fp i).toInt64 = (fp' i).toInt64; rw [h i hi]
  | succ t =>
    show sumL (fun s => BV fp g k t (g i s)) k = sumL (fun s => BV fp' g k t (g i s)) k
    exact sumL_congr (fun s hs => BV_congr hg h t _ (hg i s hi hs))
theorem DV_congr {fp fp' : Nat → Int32} {g : Nat → Nat → Nat} {n k : Nat} (hg : ∀ i j, i < n → j < k → g i j < n) (h : ∀ q, q < n → fp q = fp' q) (i : Nat) (hi : i < n) : DV fp g k i = DV fp' g k i := by
  unfold DV
  exact sumL_congr (fun s hs => by rw [h _ (hg i s hi hs), h i hi])
theorem q_best {n k : Nat} {g : Nat → Nat → Nat} {col : Nat → Nat} {fG fW : Nat → Nat → Int32} {fPy fCc fto fpay fcol : Nat → Int32} (hI : LV n k g col fG fW fPy fCc fto fpay fcol) {i t : Nat} (hi : i < n) : BC fPy g n k t i = BV fpay g k t i := by
  obtain ⟨hb, hG, hgn, hW, hT, hPy, hC⟩ := hI
  rw [BC_BV hgn t i hi, BV_congr hgn (fun q hq => (hPy q (by omega)).1) t i hi]
theorem q_stops {n k : Nat} {g : Nat → Nat → Nat} {col : Nat → Nat} {fG fW : Nat → Nat → Int32} {fPy fCc fto fpay fcol : Nat → Int32} (hI : LV n k g col fG fW fPy fCc fto fpay fcol) {i t : Nat} (hi : i < n) : stC fPy g n k i t = stB fpay g k i t := by
  obtain ⟨hb, hG, hgn, hW, hT, hPy, hC⟩ := hI
  rw [stC_B hgn t i hi]
  unfold stB
  rw [GV_congr hgn (fun q hq => (hPy q (by omega)).1) t i hi, (hPy i (by omega)).1]
theorem q_drift {n k : Nat} {g : Nat → Nat → Nat} {col : Nat → Nat} {fG fW : Nat → Nat → Int32} {fPy fCc fto fpay fcol : Nat → Int32} (hI : LV n k g col fG fW fPy fCc fto fpay fcol) {i : Nat} (hi : i < n) : DC fPy g n k i = DV fpay g k i := by
  obtain ⟨hb, hG, hgn, hW, hT, hPy, hC⟩ := hI
  rw [DC_DV hgn hi (fun q hq => by rw [(hPy q (by omega)).1]; exact (hPy q (by omega)).2), DV_congr hgn (fun q hq => (hPy q (by omega)).1) i hi]
theorem q_fair {n k : Nat} {g : Nat → Nat → Nat} {col : Nat → Nat} {fG fW : Nat → Nat → Int32} {fPy fCc fto fpay fcol : Nat → Int32} (hI : LV n k g col fG fW fPy fCc fto fpay fcol) : fairC fPy g n k = fairB fpay g n k := allB_congr (fun q hq => by rw [q_drift hI hq])
theorem q_apart {g : Nat → Nat → Nat} {n k t i j : Nat} (hg : ∀ i j, i < n → j < k → g i j < n) (hn : n ≤ 6) (hi : i < n) (hj : j < n) : lN (AB g k t i j) = lN (sm (PL (pr g) 36 k (prs i j) t) 36) := congrArg lN ((AB_sPr hg hn t i j hi hj).symm.trans rfl)
theorem inR_of1 {x : Int32} {b : Nat} (hb : b < 2 ^ 31) (h : inR x (nI 1) (nI b) = true) : ∃ i, 1 ≤ i ∧ i ≤ b ∧ x = nI i := by
  have h0 : inR x (nI 0) (nI b) = true := by
    simp only [inR, Bool.and_eq_true, Bool.not_eq_true', decide_eq_false_iff_not] at h ⊢
    refine ⟨fun z => h.1 ?_, h.2⟩
    rw [Int32.lt_iff_toInt_lt] at z ⊢
    have e0 : (nI 0).toInt = 0 := by decide
    have e1 : (nI 1).toInt = 1 := by decide
    omega
  obtain ⟨i, hi, rfl⟩ := inR_of hb h0
  refine ⟨i, ?_, hi, rfl⟩
  cases i with
  | zero => exact absurd (show nI 0 < nI 1 by decide) (inR_1 h)
  | succ i => omega
theorem two_ {a b : Bool} (h : (a && b) = true) : a = true ∧ b = true := by rw [Bool.and_eq_true] at h; exact h
theorem three_ {a b c : Bool} (h : (a && b && c) = true) : a = true ∧ b = true ∧ c = true := by rw [Bool.and_eq_true, Bool.and_eq_true] at h; exact ⟨h.1.1, h.1.2, h.2⟩
/-- the law's surroundings -/
def LE (p : Program) (s : State) (m : MethodId) (sc : Nat) (c : Code) (D : va_G) (cY : Nat → ClassId) (A : Nat → Prop) (L : Nat) (xs : Nat → Int32) : Prop := p.tables.exec = Jvm.exec ∧ c.code = cL_law_ ∧ c.maxLocals = 9 ∧ (∀ w ∈ wsL_law_, w.before #[Value.ref sc] s = true) ∧ s.vm.findClass RL = some m.cls ∧ va_K D vwCl (tyz cY) s ∧ vK D cY s ∧ (∀ q, s.heap.size ≤ q → A q) ∧ vX A s ∧ vH s ∧ va_X sc L xs s s.heap ∧ sc < s.heap.size ∧ ¬ A sc
/-- the law goes on behind a call -/
def LK (p : Program) (l : Launch) (e : Env) (s : State) (m : MethodId) (below : List Frame) (meth : Method) (c : Code) (sc : Nat) (D : va_G) (cY : Nat → ClassId) (A : Nat → Prop) (b : Nat → Nat) (rr : Nat → Nat → Nat) (a : Nat → Nat) (oo od i cells slots : Nat) (Q : State → Prop) : Prop :=
  ∀ (n k : Nat) (g : Nat → Nat → Nat) (col : Nat → Nat) (fG fW : Nat → Nat → Int32) (fR fH fA fS : Nat → Nat → Int64) (fRs : Nat → Int64) (fOt : Nat → Int32) (fMi : Nat → Int64) (fEn fEb fPy : Nat → Int32) (fB : Nat → Nat → Int64) (fCc : Nat → Int32) (th : Int32) (fto fpay fcol : Nat → Int32) (fnow fthn foth fmnr fwts : Nat → Int64) (fmap fnxt : Nat → Int32) (fO : Nat → Int64) (fE : Nat → UInt64), LV n k g col fG fW fPy fCc fto fpay fcol → ∀ (H : Heap) (locs : List Loc), va_P D vwCl (LB cY b rr a oo od n k n k fG fW fR fH fA fS fRs fOt fMi fEn fEb fPy fB fCc th fto fpay fcol fnow fthn foth fmnr fwts fmap fnxt fO fE).flatten H → va_D A (LB cY b rr a oo od n k n k fG fW fR fH fA fS fRs fOt fMi fEn fEb fPy fB fCc th fto fpay fcol fnow fthn foth fmnr fwts fmap fnxt fO fE).flatten → va_S A s.heap H locs → ∀ ls : Array Slot, lv_has ls 9 [(5, .int (nI i)), (4, .ref od), (3, .ref oo), (2, .ref (a 0)), (1, .ref (b 0)), (0, .ref sc)] → W p l e room_1 s m #[Value.ref sc] below meth c H locs (cells + 1) (slots + 6) Q (F0 m 1823 ls [])
section MyRows9
variable {p : Program} {l : Launch} {e : Env} {R : Room} {s : State} {m : MethodId} {args : Array Value} {below : List Frame} {meth : Method} {c : Code} {H : Heap} {locs : List Loc} {cells slots : Nat} {Q : State → Prop}
variable {cc : ByteArray} {pc : Nat} {ls : Array Slot} {rest st0 : List Value} {A : Nat → Prop} {H0 : Heap}
theorem s_ld (hx : p.tables.exec = Jvm.exec) (hb : c.code = cc) {sc L : Nat} {xs : Nat → Int32} (hX : va_X sc L xs s H0) (hbl : sc < H0.size) (hbA : ¬ A sc) (hS : va_S A H0 H locs) {i : Nat} (hin : i < L) (hL : L ≤ 2048) (hdg : decode cc pc = .ok (.iaload, 1))
    (kk : W p l e R s m args below meth c H locs cells slots Q (F0 m (pc + 1) ls (.int (xs i) :: rest))) : W p l e R s m args below meth c H locs cells slots Q (F0 m pc ls (.int (nI i) :: .ref sc :: rest)) :=
  va_sld hx hb hX hbl hbA hS (vp_in_nI hin (by omega)) hdg (by rw [nI_clamp (by omega)]; exact kk)
theorem eqd {x x' : UInt64} (h : x = x') (k : W p l e R s m args below meth c H locs cells slots Q (F0 m pc ls (.double x' :: rest))) : W p l e R s m args below meth c H locs cells slots Q (F0 m pc ls (.double x :: rest)) := by subst h; exact k
end MyRows9
theorem nn_of {x : Int32} (h : ¬ x < 0) : ∃ r : Nat, r < 2 ^ 31 ∧ x = nI r := by
  rw [Int32.lt_iff_toInt_lt] at h
  have e0 : (0 : Int32).toInt = 0 := by decide
  have h1 := Int32.toInt_lt x
  refine ⟨x.toInt.toNat, by omega, ?_⟩
  apply Int32.toInt_inj.mp
  rw [nI_toInt (by omega)]
  omega
