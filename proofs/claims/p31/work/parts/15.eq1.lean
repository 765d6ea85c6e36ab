/-! ===== class = reference: words ===== -/
theorem cnt_s {f : Nat → Nat} {j k : Nat} : cnt f j (k + 1) = cnt f j k + (if f k = j then 1 else 0) := rfl
/-- a sum over the slots is a sum over the states with weights -/
theorem sm_via {f h : Nat → Nat} {n : Nat} : ∀ {k : Nat}, (∀ s, s < k → h s < n) → sm (fun s => f (h s)) k = sm (fun d => cnt h d k * f d) n := by
  intro k
  induction k with
  | zero =>
    intro _
    show 0 = _
    rw [sm_congr (f := fun d => cnt h d 0 * f d) (f' := fun _ => 0) (fun i _ => Nat.zero_mul _), sm_zero]
  | succ k ih =>
    intro hh
    show sm (fun s => f (h s)) k + f (h k) = _
    rw [ih (fun s hs => hh s (by omega))]
    have e : sm (fun d => cnt h d (k + 1) * f d) n = sm (fun d => cnt h d k * f d + (if d = h k then f (h k) else 0)) n := by
      refine sm_congr (fun d _ => ?_)
      rw [cnt_s, Nat.add_mul]
      congr 1
      by_cases z : h k = d
      · rw [if_pos z, if_pos z.symm, Nat.one_mul, z]
      · rw [if_neg z, if_neg (Ne.symm z), Nat.zero_mul]
    rw [e, sm_add, sm_one (hh k (Nat.lt_succ_self k))]
theorem sm_sel {f : Nat → Nat} {n b : Nat} (hb : b < n) : sm (fun d => f d * (if b = d then 1 else 0)) n = f b := by
  rw [sm_congr (f' := fun d => if d = b then f b else 0) (fun d _ => ?_), sm_one hb]
  by_cases z : b = d
  · rw [if_pos z, if_pos z.symm, Nat.mul_one, z]
  · rw [if_neg z, if_neg (Ne.symm z), Nat.mul_zero]
theorem sm_sel' {f : Nat → Nat} {n b : Nat} (hb : b < n) : sm (fun d => (if d = b then 1 else 0) * f d) n = f b := by
  rw [sm_congr (f' := fun d => if d = b then f b else 0) (fun d _ => ?_), sm_one hb]
  by_cases z : d = b
  · rw [if_pos z, if_pos z, Nat.one_mul, z]
  · rw [if_neg z, if_neg z, Nat.zero_mul]
/-- the first step first -/
theorem PL_first {g : Nat → Nat → Nat} {n k f : Nat} (hf : f < n) : ∀ t b, b < n → PL g n k f (t + 1) b = sm (fun d => cnt (g f) d k * PL g n k d t b) n := by
  intro t
  induction t with
  | zero =>
    intro b hb
    show sm (fun c => (if c = f then 1 else 0) * cnt (g c) b k) n = sm (fun d => cnt (g f) d k * (if b = d then 1 else 0)) n
    rw [sm_sel' (f := fun c => cnt (g c) b k) hf, sm_sel (f := fun d => cnt (g f) d k) hb]
  | succ t ih =>
    intro b hb
    show sm (fun c => PL g n k f (t + 1) c * cnt (g c) b k) n = sm (fun d => cnt (g f) d k * sm (fun c => PL g n k d t c * cnt (g c) b k) n) n
    rw [sm_congr (f' := fun c => sm (fun d => cnt (g f) d k * (PL g n k d t c * cnt (g c) b k)) n) (fun c hc => by
      rw [ih c hc, ← sm_mulr]
      exact sm_congr (fun d _ => Nat.mul_assoc _ _ _)), sm_swap]
    exact sm_congr (fun d _ => sm_mul)
theorem RW_PL {g : Nat → Nat → Nat} {n k b : Nat} (hg : ∀ i j, i < n → j < k → g i j < n) (hb : b < n) : ∀ t f, f < n → RW g k b t f = PL g n k f t b := by
  intro t
  induction t with
  | zero =>
    intro f hf
    show (if f = b then 1 else 0) = (if b = f then 1 else 0)
    by_cases z : f = b
    · rw [if_pos z, if_pos z.symm]
    · rw [if_neg z, if_neg (Ne.symm z)]
  | succ t ih =>
    intro f hf
    show sm (fun s => RW g k b t (g f s)) k = _
    rw [sm_via (f := fun d => RW g k b t d) (n := n) (fun s hs => hg f s hf hs), PL_first hf t b hb]
    exact sm_congr (fun d hd => by rw [ih d hd])
/-! hits -/
theorem HV_first {g : Nat → Nat → Nat} {n k f b : Nat} (hf : f < n) (hfb : f ≠ b) : ∀ t c, c < n → HV g n k f b (t + 1) c = sm (fun d => cnt (g f) d k * HV g n k d b t c) n := by
  intro t
  induction t with
  | zero =>
    intro c hc
    show sm (fun d => (if d = b then 0 else if d = f then 1 else 0) * cnt (g d) c k) n = sm (fun d => cnt (g f) d k * (if c = d then 1 else 0)) n
    rw [sm_sel (f := fun d => cnt (g f) d k) hc, sm_congr (f' := fun d => (if d = f then 1 else 0) * cnt (g d) c k) (fun d _ => ?_), sm_sel' (f := fun d => cnt (g d) c k) hf]
    by_cases z : d = b
    · rw [if_pos z, if_neg (fun e => hfb (e.symm.trans z))]
    · rw [if_neg z]
  | succ t ih =>
    intro c hc
    show sm (fun e => (if e = b then 0 else HV g n k f b (t + 1) e) * cnt (g e) c k) n = sm (fun d => cnt (g f) d k * sm (fun e => (if e = b then 0 else HV g n k d b t e) * cnt (g e) c k) n) n
    rw [sm_congr (f' := fun e => sm (fun d => cnt (g f) d k * ((if e = b then 0 else HV g n k d b t e) * cnt (g e) c k)) n) (fun e he => ?_), sm_swap]
    · exact sm_congr (fun d _ => sm_mul)
    · by_cases z : e = b
      · rw [if_pos z, Nat.zero_mul, sm_congr (f' := fun _ => 0) (fun d _ => by rw [if_pos z, Nat.zero_mul, Nat.mul_zero]), sm_zero]
      · rw [if_neg z, ih e he, ← sm_mulr]
        exact sm_congr (fun d _ => by rw [if_neg z, Nat.mul_assoc])
theorem HV_b {g : Nat → Nat → Nat} {n k b : Nat} : ∀ t c, HV g n k b b (t + 1) c = 0 := by
  intro t
  induction t with
  | zero =>
    intro c
    show sm (fun d => (if d = b then 0 else if d = b then 1 else 0) * cnt (g d) c k) n = 0
    rw [sm_congr (f' := fun _ => 0) (fun d _ => by by_cases z : d = b <;> simp [z]), sm_zero]
  | succ t ih =>
    intro c
    show sm (fun e => (if e = b then 0 else HV g n k b b (t + 1) e) * cnt (g e) c k) n = 0
    rw [sm_congr (f' := fun _ => 0) (fun d _ => by rw [ih d]; by_cases z : d = b <;> simp [z]), sm_zero]
theorem HS_shift {g : Nat → Nat → Nat} {n k f b T : Nat} : ∀ u, HS g n k f b T (u + 1) = HV g n k f b 0 b * k ^ T + sm (fun v => HV g n k f b (v + 1) b * k ^ (T - (v + 1))) u := by
  intro u
  induction u with
  | zero => show 0 + _ = _ + 0; rw [Nat.zero_add, Nat.add_zero]; rfl
  | succ u ih =>
    show HS g n k f b T (u + 1) + HV g n k f b (u + 1) b * k ^ (T - (u + 1)) = _ + (sm _ u + _)
    rw [ih, Nat.add_assoc]
theorem HS_sm {g : Nat → Nat → Nat} {n k f b T : Nat} : ∀ u, HS g n k f b T u = sm (fun v => HV g n k f b v b * k ^ (T - v)) u := by
  intro u
  induction u with
  | zero => rfl
  | succ u ih => show HS g n k f b T u + _ = sm _ u + _; rw [ih]
theorem HB_HS {g : Nat → Nat → Nat} {n k b : Nat} (hb : b < n) : ∀ t f, f < n → HB g n k b t f = HS g n k f b t (t + 1) := by
  intro t
  induction t with
  | zero =>
    intro f hf
    show (if f = b then 1 else 0) = 0 + (if b = f then 1 else 0) * k ^ 0
    rw [Nat.zero_add, Nat.pow_zero, Nat.mul_one]
    by_cases z : f = b
    · rw [if_pos z, if_pos z.symm]
    · rw [if_neg z, if_neg (Ne.symm z)]
  | succ t ih =>
    intro f hf
    rw [HS_shift (t + 1)]
    show (if f = b then k ^ (t + 1) else sm (fun d => cnt (g f) d k * HB g n k b t d) n) = (if b = f then 1 else 0) * k ^ (t + 1) + _
    by_cases z : f = b
    · subst z
      rw [if_pos rfl, if_pos rfl, Nat.one_mul, sm_congr (f' := fun _ => 0) (fun v _ => by rw [HV_b, Nat.zero_mul]), sm_zero]
      rfl
    · rw [if_neg z, if_neg (Ne.symm z), Nat.zero_mul, Nat.zero_add]
      rw [sm_congr (f := fun v => HV g n k f b (v + 1) b * k ^ (t + 1 - (v + 1))) (f' := fun v => sm (fun d => cnt (g f) d k * (HV g n k d b v b * k ^ (t - v))) n) (fun v _ => by
        rw [HV_first hf z v b hb, ← sm_mulr, Nat.add_sub_add_right]
        exact sm_congr (fun d _ => Nat.mul_assoc _ _ _)), sm_swap]
      refine sm_congr (fun d hd => ?_)
      rw [ih d hd, HS_sm, sm_mul]
/-! apart -/
theorem PL_36 {g : Nat → Nat → Nat} {k : Nat} : ∀ t b, b < 36 → PL (pr g) 36 k 36 t b = 0 := by
  intro t
  induction t with
  | zero => intro b hb; exact if_neg (by omega)
  | succ t ih =>
    intro b hb
    show sm (fun c => PL (pr g) 36 k 36 t c * cnt (pr g c) b k) 36 = 0
    rw [sm_congr (f' := fun _ => 0) (fun c hc => by rw [ih c hc, Nat.zero_mul]), sm_zero]
def sPr (g : Nat → Nat → Nat) (k t f : Nat) : Nat := sm (PL (pr g) 36 k f t) 36
theorem sPr_36 {g : Nat → Nat → Nat} {k t : Nat} : sPr g k t 36 = 0 := by
  unfold sPr
  rw [sm_congr (f' := fun _ => 0) (fun b hb => PL_36 t b hb), sm_zero]
theorem pr_lt {g : Nat → Nat → Nat} {n k f : Nat} (hg : ∀ i j, i < n → j < k → g i j < n) (hn : n ≤ 6) (h1 : f / 6 < n) (h2 : f % 6 < n) : ∀ s, s < k → pr g f s < 37 := by
  intro s hs
  have a := hg _ _ h1 hs
  have b := hg _ _ h2 hs
  unfold pr
  by_cases z : g (f / 6) s = g (f % 6) s
  · rw [if_pos z]; omega
  · rw [if_neg z]; omega
theorem PL_tot {G : Nat → Nat → Nat} {N k f t : Nat} (hf : f < N) : sm (PL G N k f (t + 1)) N = sm (fun d => cnt (G f) d k * sm (PL G N k d t) N) N := by
  rw [sm_congr (f := PL G N k f (t + 1)) (f' := fun b => sm (fun d => cnt (G f) d k * PL G N k d t b) N) (fun b hb => PL_first hf t b hb), sm_swap]
  exact sm_congr (fun d _ => sm_mul)
theorem sm_top {f : Nat → Nat} {N : Nat} (h : f N = 0) : sm f (N + 1) = sm f N := by
  show sm f N + f N = sm f N
  rw [h]; rfl
theorem sPr_s {g : Nat → Nat → Nat} {n k f t : Nat} (hg : ∀ i j, i < n → j < k → g i j < n) (hn : n ≤ 6) (h1 : f / 6 < n) (h2 : f % 6 < n) (hf : f < 36) : sPr g k (t + 1) f = sm (fun s => sPr g k t (pr g f s)) k := by
  rw [sm_via (f := sPr g k t) (h := pr g f) (n := 37) (pr_lt hg hn h1 h2), sm_top (f := fun d => cnt (pr g f) d k * sPr g k t d) (N := 36) (by rw [sPr_36, Nat.mul_zero])]
  exact PL_tot (G := pr g) (N := 36) (k := k) (f := f) (t := t) hf
theorem AB_sPr {g : Nat → Nat → Nat} {n k : Nat} (hg : ∀ i j, i < n → j < k → g i j < n) (hn : n ≤ 6) : ∀ t i j, i < n → j < n → sPr g k t (prs i j) = AB g k t i j := by
  intro t
  induction t with
  | zero =>
    intro i j hi hj
    show _ = (if i = j then 0 else 1)
    unfold prs
    by_cases z : i = j
    · rw [if_pos z, if_pos z, sPr_36]
    · rw [if_neg z, if_neg z]
      show sm (fun b => if b = 6 * i + j then 1 else 0) 36 = 1
      exact sm_one (by omega)
  | succ t ih =>
    intro i j hi hj
    show _ = (if i = j then 0 else sm (fun s => AB g k t (g i s) (g j s)) k)
    have e : prs i j = if i = j then 36 else 6 * i + j := rfl
    rw [e]
    by_cases z : i = j
    · rw [if_pos z, if_pos z, sPr_36]
    · rw [if_neg z, if_neg z]
      have d1 : (6 * i + j) / 6 = i := by omega
      have d2 : (6 * i + j) % 6 = j := by omega
      rw [sPr_s hg hn (by rw [d1]; exact hi) (by rw [d2]; exact hj) (by omega)]
      refine sm_congr (fun s hs => ?_)
      rw [← ih (g i s) (g j s) (hg i s hi hs) (hg j s hj hs)]
      congr 1
      show (if g ((6 * i + j) / 6) s = g ((6 * i + j) % 6) s then 36 else 6 * g ((6 * i + j) / 6) s + g ((6 * i + j) % 6) s) = _
      rw [d1, d2]
      rfl
/-! distances -/
theorem sub_two {a b : Nat} : a - b + b = b - a + a := by omega
theorem dst_symm {a b : Nat → Nat} {n : Nat} (h : sm a n = sm b n) : dst a b n = dst b a n := by
  unfold dst
  have e1 : sm (fun c => (a c - b c) + b c) n = sm (fun c => (b c - a c) + a c) n := sm_congr (fun c _ => sub_two)
  rw [sm_add, sm_add] at e1
  have e2 : sm (fun c => b c) n = sm b n := rfl
  have e3 : sm (fun c => a c) n = sm a n := rfl
  rw [e2, e3] at e1
  omega
theorem dst_self {a : Nat → Nat} {n : Nat} : dst a a n = 0 := by
  unfold dst
  rw [sm_congr (f' := fun _ => 0) (fun c _ => Nat.sub_self _), sm_zero]
theorem mixC_symm {g : Nat → Nat → Nat} {n k th t u w : Nat} (hg : ∀ i j, i < n → j < k → g i j < n) (hu : u < n) (hw : w < n) : mixC g n k th t u w = mixC g n k th t w u := by
  unfold mixC
  rw [dst_symm (by rw [PL_sum hg hu, PL_sum hg hw])]
theorem mixA_B {g : Nat → Nat → Nat} {n k th t : Nat} (hg : ∀ i j, i < n → j < k → g i j < n) : mixA g n k th t = mixB g n k th t := by
  apply Bool.eq_iff_iff.mpr
  unfold mixA mixB
  rw [allB_iff, allB_iff]
  constructor
  · intro h u hu
    rw [allB_iff]
    intro w hw
    have h1 := allB_iff.mp (h w (by omega)) u hu
    rw [decide_eq_true hw] at h1
    rw [mixC_symm hg hu (by omega)]
    exact h1
  · intro h u hu
    rw [allB_iff]
    intro w hw
    by_cases z : u < w
    · rw [mixC_symm hg hu hw, allB_iff.mp (h w hw) u z, Bool.or_true]
    · rw [decide_eq_false z]; rfl
theorem mxs_fnd {P : Nat → Bool} : ∀ i, i ≤ 13 → fnd P i = mxs P i (13 - i) := by
  intro i
  induction i with
  | zero => intro _; rfl
  | succ i ih =>
    intro hi
    show (if P (12 - i) = true then nI (12 - i) else fnd P i) = mxs P (i + 1) (13 - (i + 1))
    rw [ih (by omega), show 13 - (i + 1) = 12 - i by omega]
    show _ = (if P (12 - i) = true then nI (12 - i) else mxs P i (12 - i + 1))
    rw [show 12 - i + 1 = 13 - i by omega]
theorem mxs_congr {P P' : Nat → Bool} {N : Nat} : ∀ fu u, u + fu ≤ N → (∀ q, q < N → P q = P' q) → mxs P fu u = mxs P' fu u := by
  intro fu
  induction fu with
  | zero => intro u _ _; rfl
  | succ fu ih =>
    intro u hu h
    show (if P u = true then nI u else mxs P fu (u + 1)) = (if P' u = true then nI u else mxs P' fu (u + 1))
    rw [h u (by omega), ih (u + 1) (by omega) h]
theorem mix_eq {g : Nat → Nat → Nat} {n k th : Nat} (hg : ∀ i j, i < n → j < k → g i j < n) : mxs (mixA g n k th) 13 0 = fnd (mixB g n k th) 13 := by
  rw [mxs_fnd 13 (Nat.le_refl 13)]
  exact mxs_congr (N := 13) 13 0 (Nat.le_refl 13) (fun q _ => mixA_B hg)
