/-! ===== laws: steps and more steps, distances, words behind which two are apart or a crowd is together, hits ===== -/
/-- by all states between -/
theorem PL_ck {g : Nat → Nat → Nat} {n k a : Nat} (m : Nat) : ∀ u b, b < n → sm (fun d => PL g n k a m d * PL g n k d u b) n = PL g n k a (m + u) b := by
  intro u
  induction u with
  | zero =>
    intro b hb
    exact sm_sel (f := fun d => PL g n k a m d) hb
  | succ u ih =>
    intro b hb
    show sm (fun d => PL g n k a m d * sm (fun c => PL g n k d u c * cnt (g c) b k) n) n = sm (fun c => PL g n k a (m + u) c * cnt (g c) b k) n
    rw [sm_congr (f' := fun d => sm (fun c => PL g n k a m d * (PL g n k d u c * cnt (g c) b k)) n) (fun d _ => sm_mul.symm), sm_swap]
    refine sm_congr (fun c hc => ?_)
    rw [← ih c hc, ← sm_mulr]
    exact sm_congr (fun d _ => (Nat.mul_assoc _ _ _).symm)
theorem PL_1 {g : Nat → Nat → Nat} {n k a b : Nat} (ha : a < n) : PL g n k a 1 b = cnt (g a) b k :=
  sm_sel' (f := fun c => cnt (g c) b k) ha
theorem PL_slot {g : Nat → Nat → Nat} {n k f t b : Nat} (hg : ∀ i j, i < n → j < k → g i j < n) (hf : f < n) (hb : b < n) : PL g n k f (t + 1) b = sm (fun s => PL g n k (g f s) t b) k := by
  rw [PL_first hf t b hb, sm_via (f := fun d => PL g n k d t b) (n := n) (fun s hs => hg f s hf hs)]
theorem sm_const {c n : Nat} : sm (fun _ => c) n = n * c := by
  induction n with
  | zero => exact (Nat.zero_mul c).symm
  | succ n ih => show sm (fun _ => c) n + c = _; rw [ih, Nat.succ_mul]
theorem sm_sub_le {f f' : Nat → Nat} : ∀ n, sm f n - sm f' n ≤ sm (fun i => f i - f' i) n := by
  intro n
  induction n with
  | zero => exact Nat.le_refl 0
  | succ n ih =>
    show (sm f n + f n) - (sm f' n + f' n) ≤ sm (fun i => f i - f' i) n + (f n - f' n)
    omega
/-! distances -/
theorem dst_sum {F G : Nat → Nat → Nat} {n k : Nat} : dst (fun c => sm (fun s => F s c) k) (fun c => sm (fun s => G s c) k) n ≤ sm (fun s => dst (F s) (G s) n) k := by
  unfold dst
  refine Nat.le_trans (sm_mono (f' := fun c => sm (fun s => F s c - G s c) k) (fun c _ => sm_sub_le k)) ?_
  rw [sm_swap]
  exact Nat.le_refl _
theorem dst_congr {a a' b b' : Nat → Nat} {n : Nat} (h : ∀ c, c < n → a c = a' c) (h' : ∀ c, c < n → b c = b' c) : dst a b n = dst a' b' n :=
  sm_congr (fun c hc => by rw [h c hc, h' c hc])
theorem dst_leA {a b : Nat → Nat} {n : Nat} : dst a b n ≤ sm a n := sm_mono (fun c _ => Nat.sub_le _ _)
theorem dst_tri {a b d : Nat → Nat} {n : Nat} : dst a b n ≤ dst a d n + dst d b n := by
  unfold dst
  rw [← sm_add]
  exact sm_mono (fun c _ => by omega)
theorem AB_self {g : Nat → Nat → Nat} {k t i : Nat} : AB g k t i i = 0 := by
  cases t with
  | zero => exact if_pos rfl
  | succ t => exact if_pos rfl
theorem AB_symm {g : Nat → Nat → Nat} {k : Nat} : ∀ t i j, AB g k t i j = AB g k t j i := by
  intro t
  induction t with
  | zero =>
    intro i j
    show (if i = j then 0 else 1) = if j = i then 0 else 1
    by_cases z : i = j
    · rw [if_pos z, if_pos z.symm]
    · rw [if_neg z, if_neg (Ne.symm z)]
  | succ t ih =>
    intro i j
    show (if i = j then 0 else sm (fun s => AB g k t (g i s) (g j s)) k) = if j = i then 0 else sm (fun s => AB g k t (g j s) (g i s)) k
    by_cases z : i = j
    · rw [if_pos z, if_pos z.symm]
    · rw [if_neg z, if_neg (Ne.symm z)]
      exact sm_congr (fun s _ => ih _ _)
theorem AB_s {g : Nat → Nat → Nat} {k t i j : Nat} (h : i ≠ j) : AB g k (t + 1) i j = sm (fun s => AB g k t (g i s) (g j s)) k := if_neg h
theorem AB_sle {g : Nat → Nat → Nat} {k t i j : Nat} : AB g k (t + 1) i j ≤ sm (fun s => AB g k t (g i s) (g j s)) k := by
  by_cases z : i = j
  · subst z; rw [AB_self]; exact Nat.zero_le _
  · rw [AB_s z]; exact Nat.le_refl _
theorem AB_le {g : Nat → Nat → Nat} {k : Nat} : ∀ t i j, AB g k t i j ≤ k ^ t := by
  intro t
  induction t with
  | zero =>
    intro i j
    show (if i = j then 0 else 1) ≤ 1
    split <;> omega
  | succ t ih =>
    intro i j
    refine Nat.le_trans AB_sle (Nat.le_trans (sm_mono (f' := fun _ => k ^ t) (fun s _ => ih _ _)) ?_)
    rw [sm_const, Nat.pow_succ, Nat.mul_comm]
    exact Nat.le_refl _
theorem AB_step {g : Nat → Nat → Nat} {k : Nat} : ∀ t i j, AB g k (t + 1) i j ≤ k * AB g k t i j := by
  intro t
  induction t with
  | zero =>
    intro i j
    by_cases z : i = j
    · subst z; rw [AB_self]; exact Nat.zero_le _
    · refine Nat.le_trans (AB_le 1 i j) ?_
      rw [show AB g k 0 i j = 1 from if_neg z, Nat.pow_one, Nat.mul_one]
      exact Nat.le_refl _
  | succ t ih =>
    intro i j
    by_cases z : i = j
    · subst z; rw [AB_self]; exact Nat.zero_le _
    · rw [AB_s z, AB_s z, ← sm_mul]
      exact sm_mono (fun s _ => ih _ _)
/-- walkers who are together have one law: the distance is at most the words behind which they are apart -/
theorem dst_AB {g : Nat → Nat → Nat} {n k : Nat} (hg : ∀ i j, i < n → j < k → g i j < n) : ∀ t i j, i < n → j < n → dst (PL g n k i t) (PL g n k j t) n ≤ AB g k t i j := by
  intro t
  induction t with
  | zero =>
    intro i j hi hj
    by_cases z : i = j
    · subst z; rw [dst_self]; exact Nat.zero_le _
    · rw [show AB g k 0 i j = 1 from if_neg z]
      refine Nat.le_trans dst_leA ?_
      rw [PL_sum hg hi 0]
      exact Nat.le_refl _
  | succ t ih =>
    intro i j hi hj
    by_cases z : i = j
    · subst z; rw [dst_self]; exact Nat.zero_le _
    · rw [AB_s z, dst_congr (fun c hc => PL_slot hg hi hc) (fun c hc => PL_slot hg hj hc)]
      exact Nat.le_trans (dst_sum (F := fun s c => PL g n k (g i s) t c) (G := fun s c => PL g n k (g j s) t c)) (sm_mono (fun s hs => ih _ _ (hg i s hi hs) (hg j s hj hs)))
theorem dst_step {g : Nat → Nat → Nat} {n k : Nat} (hg : ∀ i j, i < n → j < k → g i j < n) (t i j : Nat) : dst (PL g n k i (t + 1)) (PL g n k j (t + 1)) n ≤ k * dst (PL g n k i t) (PL g n k j t) n := by
  have h : dst (PL g n k i (t + 1)) (PL g n k j (t + 1)) n ≤ sm (fun c => dst (fun b => PL g n k i t c * cnt (g c) b k) (fun b => PL g n k j t c * cnt (g c) b k) n) n :=
    dst_sum (F := fun c b => PL g n k i t c * cnt (g c) b k) (G := fun c b => PL g n k j t c * cnt (g c) b k)
  refine Nat.le_trans h ?_
  show _ ≤ k * sm (fun c => PL g n k i t c - PL g n k j t c) n
  rw [← sm_mul]
  refine sm_mono (fun c hc => ?_)
  show sm (fun b => PL g n k i t c * cnt (g c) b k - PL g n k j t c * cnt (g c) b k) n ≤ _
  rw [sm_congr (f' := fun b => (PL g n k i t c - PL g n k j t c) * cnt (g c) b k) (fun b _ => (Nat.sub_mul _ _ _).symm), sm_mul, sm_cnt (fun s hs => hg c s hc hs), Nat.mul_comm]
  exact Nat.le_refl _
theorem dst_comm {g : Nat → Nat → Nat} {n k i j t : Nat} (hg : ∀ i j, i < n → j < k → g i j < n) (hi : i < n) (hj : j < n) : dst (PL g n k i t) (PL g n k j t) n = dst (PL g n k j t) (PL g n k i t) n :=
  dst_symm (by rw [PL_sum hg hi, PL_sum hg hj])
theorem dst_pow {g : Nat → Nat → Nat} {n k i j t : Nat} (hg : ∀ i j, i < n → j < k → g i j < n) (hi : i < n) : dst (PL g n k i t) (PL g n k j t) n ≤ k ^ t := by
  refine Nat.le_trans dst_leA ?_
  rw [PL_sum hg hi]
  exact Nat.le_refl _
/-! crowds -/
/-- behind how many words of t steps a crowd that begins in the set Y is in one state -/
def STg (g : Nat → Nat → Nat) (n k Y t : Nat) : Nat := sm (fun w => PL (ig g n) 64 k Y t (2 ^ w)) n
theorem p64 {w n : Nat} (hw : w < n) (hn : n ≤ 6) : 2 ^ w < 64 := pow64 hw hn
theorem STg_s {g : Nat → Nat → Nat} {n k Y t : Nat} (hg : ∀ i j, i < n → j < k → g i j < n) (hn : n ≤ 6) (hY : Y < 64) : STg g n k Y (t + 1) = sm (fun s => STg g n k (ig g n Y s) t) k := by
  unfold STg
  rw [sm_congr (f' := fun w => sm (fun s => PL (ig g n) 64 k (ig g n Y s) t (2 ^ w)) k) (fun w hw => PL_slot (g := ig g n) (n := 64) (fun i j _ hj => ig_lt hg hn hj) hY (p64 hw hn)), sm_swap]
theorem pw_inj {a b : Nat} (h : 2 ^ a = 2 ^ b) : a = b := (Nat.pow_right_inj (by decide)).mp h
theorem STg_pow {g : Nat → Nat → Nat} {n k v : Nat} (hv : v < n) : STg g n k (2 ^ v) 0 = 1 := by
  unfold STg
  show sm (fun w => if 2 ^ w = 2 ^ v then 1 else 0) n = 1
  rw [sm_congr (f' := fun w => if w = v then 1 else 0) (fun w _ => ?_), sm_one hv]
  by_cases z : w = v
  · rw [if_pos z, if_pos (by rw [z])]
  · rw [if_neg z, if_neg (fun e => z (pw_inj e))]
theorem STg_no {g : Nat → Nat → Nat} {n k Y : Nat} (h : ∀ v, v < n → Y ≠ 2 ^ v) : STg g n k Y 0 = 0 := by
  unfold STg
  show sm (fun w => if 2 ^ w = Y then 1 else 0) n = 0
  rw [sm_congr (f' := fun _ => 0) (fun w hw => if_neg (fun e => h w hw e.symm)), sm_zero]
theorem ig_tb {g : Nat → Nat → Nat} {n Y s q : Nat} : (ig g n Y s).testBit q = true ↔ ∃ i, i < n ∧ Y.testBit i = true ∧ g i s = q := img_tb n
theorem STg_AB {g : Nat → Nat → Nat} {n k : Nat} (hg : ∀ i j, i < n → j < k → g i j < n) (hn : n ≤ 6) : ∀ t Y i j, Y < 64 → i < n → j < n → Y.testBit i = true → Y.testBit j = true → STg g n k Y t + AB g k t i j ≤ k ^ t := by
  intro t
  induction t with
  | zero =>
    intro Y i j hY hi hj h1 h2
    by_cases z : ∃ v, v < n ∧ Y = 2 ^ v
    · obtain ⟨v, hv, rfl⟩ := z
      rw [STg_pow hv]
      rw [Nat.testBit_two_pow, decide_eq_true_iff] at h1 h2
      subst h1; subst h2
      rw [AB_self]
      exact Nat.le_refl _
    · rw [STg_no (fun v hv e => z ⟨v, hv, e⟩), Nat.zero_add]
      exact AB_le 0 i j
  | succ t ih =>
    intro Y i j hY hi hj h1 h2
    rw [STg_s hg hn hY]
    refine Nat.le_trans (Nat.add_le_add_left AB_sle _) ?_
    rw [← sm_add, Nat.pow_succ, Nat.mul_comm, ← sm_const]
    exact sm_mono (fun s hs => ih _ _ _ (ig_lt hg hn hs) (hg i s hi hs) (hg j s hj hs) (ig_tb.mpr ⟨i, hi, h1, rfl⟩) (ig_tb.mpr ⟨j, hj, h2, rfl⟩))
theorem all_tb {n i : Nat} (hi : i < n) : (2 ^ n - 1).testBit i = true := by
  rw [Nat.testBit_two_pow_sub_one, decide_eq_true hi]
theorem all_lt {n : Nat} (hn : n ≤ 6) : 2 ^ n - 1 < 64 := by
  have : 2 ^ n ≤ 2 ^ 6 := Nat.pow_le_pow_right (by decide) hn
  omega
theorem STg_le {g : Nat → Nat → Nat} {n k t i j : Nat} (hg : ∀ i j, i < n → j < k → g i j < n) (hn : n ≤ 6) (hi : i < n) (hj : j < n) : STg g n k (2 ^ n - 1) t + AB g k t i j ≤ k ^ t :=
  STg_AB hg hn t _ i j (all_lt hn) hi hj (all_tb hi) (all_tb hj)
theorem ig_pow {g : Nat → Nat → Nat} {n v s : Nat} (hv : v < n) : ig g n (2 ^ v) s = 2 ^ g v s := by
  apply Nat.eq_of_testBit_eq
  intro q
  rw [Bool.eq_iff_iff, ig_tb, Nat.testBit_two_pow, decide_eq_true_iff]
  constructor
  · rintro ⟨i, _, h, e⟩
    rw [Nat.testBit_two_pow, decide_eq_true_iff] at h
    rw [h]; exact e
  · intro e
    exact ⟨v, hv, by rw [Nat.testBit_two_pow, decide_eq_true rfl], e⟩
theorem STg_up {g : Nat → Nat → Nat} {n k : Nat} (hg : ∀ i j, i < n → j < k → g i j < n) (hn : n ≤ 6) : ∀ t Y, Y < 64 → k * STg g n k Y t ≤ STg g n k Y (t + 1) := by
  intro t
  induction t with
  | zero =>
    intro Y hY
    by_cases z : ∃ v, v < n ∧ Y = 2 ^ v
    · obtain ⟨v, hv, rfl⟩ := z
      rw [STg_pow hv, Nat.mul_one, STg_s hg hn hY, sm_congr (f' := fun _ => 1) (fun s hs => by rw [ig_pow hv, STg_pow (hg v s hv hs)]), sm_const, Nat.mul_one]
      exact Nat.le_refl _
    · rw [STg_no (fun v hv e => z ⟨v, hv, e⟩), Nat.mul_zero]
      exact Nat.zero_le _
  | succ t ih =>
    intro Y hY
    rw [STg_s hg hn hY, STg_s hg hn hY, ← sm_mul]
    exact sm_mono (fun s hs => ih _ (ig_lt hg hn hs))
/-! hits -/
theorem HB_bb {g : Nat → Nat → Nat} {n k b : Nat} : ∀ t, HB g n k b t b = k ^ t := by
  intro t
  cases t with
  | zero => exact if_pos rfl
  | succ t => exact if_pos rfl
theorem HB_s {g : Nat → Nat → Nat} {n k b t i : Nat} (h : i ≠ b) : HB g n k b (t + 1) i = sm (fun d => cnt (g i) d k * HB g n k b t d) n := if_neg h
theorem HB_PL {g : Nat → Nat → Nat} {n k b : Nat} (hg : ∀ i j, i < n → j < k → g i j < n) (hb : b < n) : ∀ t i, i < n → PL g n k i t b ≤ HB g n k b t i := by
  intro t
  induction t with
  | zero =>
    intro i hi
    show (if b = i then 1 else 0) ≤ if i = b then 1 else 0
    by_cases z : i = b
    · rw [if_pos z, if_pos z.symm]; exact Nat.le_refl _
    · rw [if_neg z, if_neg (Ne.symm z)]; exact Nat.le_refl _
  | succ t ih =>
    intro i hi
    by_cases z : i = b
    · subst z; rw [HB_bb]; exact PL_le hg hi hb
    · rw [HB_s z, PL_first hi t b hb]
      exact sm_mono (fun d hd => Nat.mul_le_mul_left _ (ih d hd))
theorem HB_le {g : Nat → Nat → Nat} {n k b : Nat} (hg : ∀ i j, i < n → j < k → g i j < n) : ∀ t i, i < n → HB g n k b t i ≤ k ^ t := by
  intro t
  induction t with
  | zero =>
    intro i hi
    show (if i = b then 1 else 0) ≤ 1
    split <;> omega
  | succ t ih =>
    intro i hi
    by_cases z : i = b
    · subst z; rw [HB_bb]; exact Nat.le_refl _
    · rw [HB_s z]
      refine Nat.le_trans (sm_mono (f' := fun d => cnt (g i) d k * k ^ t) (fun d hd => Nat.mul_le_mul_left _ (ih d hd))) ?_
      rw [sm_mulr, sm_cnt (fun s hs => hg i s hi hs), Nat.pow_succ, Nat.mul_comm]
      exact Nat.le_refl _
theorem HB_up {g : Nat → Nat → Nat} {n k b : Nat} : ∀ t i, k * HB g n k b t i ≤ HB g n k b (t + 1) i := by
  intro t
  induction t with
  | zero =>
    intro i
    by_cases z : i = b
    · subst z; rw [HB_bb, HB_bb, Nat.pow_zero, Nat.mul_one, Nat.pow_one]; exact Nat.le_refl _
    · rw [show HB g n k b 0 i = 0 from if_neg z, Nat.mul_zero]; exact Nat.zero_le _
  | succ t ih =>
    intro i
    by_cases z : i = b
    · subst z; rw [HB_bb, HB_bb, Nat.pow_succ k (t + 1), Nat.mul_comm]; exact Nat.le_refl _
    · rw [HB_s z, HB_s z, ← sm_mul]
      exact sm_mono (fun d _ => by rw [Nat.mul_left_comm]; exact Nat.mul_le_mul_left _ (ih d))
theorem sm_ne0 {f : Nat → Nat} : ∀ {n : Nat}, sm f n ≠ 0 → ∃ i, i < n ∧ f i ≠ 0 := by
  intro n
  induction n with
  | zero => intro h; exact absurd rfl h
  | succ n ih =>
    intro h
    by_cases z : f n = 0
    · have h2 : sm f n ≠ 0 := fun e => h (by show sm f n + f n = 0; rw [e, z])
      obtain ⟨i, hi, hf⟩ := ih h2
      exact ⟨i, by omega, hf⟩
    · exact ⟨n, by omega, z⟩
theorem Wk_first {g : Nat → Nat → Nat} {k i s u b : Nat} (hs : s < k) (h : Wk g k (g i s) u b) : Wk g k i (1 + u) b := Wk_trans (Wk_one hs rfl) u b h
theorem PL_Wk {g : Nat → Nat → Nat} {n k i : Nat} : ∀ t b, PL g n k i t b ≠ 0 → Wk g k i t b := by
  intro t
  induction t with
  | zero =>
    intro b h
    by_cases z : b = i
    · exact z
    · exact absurd (if_neg z) h
  | succ t ih =>
    intro b h
    obtain ⟨c, _, hc⟩ := sm_ne0 h
    have h1 : PL g n k i t c ≠ 0 := fun e => hc (by show PL g n k i t c * _ = 0; rw [e, Nat.zero_mul])
    have h2 : 0 < cnt (g c) b k := Nat.pos_of_ne_zero (fun e => hc (by show PL g n k i t c * cnt (g c) b k = 0; rw [e, Nat.mul_zero]))
    exact ⟨c, ih c h1, (cnt_pos k).mp h2⟩
theorem HB_Wk {g : Nat → Nat → Nat} {n k b : Nat} : ∀ t i, HB g n k b t i ≠ 0 → ∃ u, u ≤ t ∧ Wk g k i u b := by
  intro t
  induction t with
  | zero =>
    intro i h
    by_cases z : i = b
    · exact ⟨0, Nat.le_refl 0, z.symm⟩
    · exact absurd (if_neg z) h
  | succ t ih =>
    intro i h
    by_cases z : i = b
    · exact ⟨0, Nat.zero_le _, z.symm⟩
    · rw [HB_s z] at h
      obtain ⟨d, _, hd⟩ := sm_ne0 h
      have h1 : HB g n k b t d ≠ 0 := fun e => hd (by show _ * HB g n k b t d = 0; rw [e, Nat.mul_zero])
      have h2 : 0 < cnt (g i) d k := Nat.pos_of_ne_zero (fun e => hd (by show cnt (g i) d k * _ = 0; rw [e, Nat.zero_mul]))
      obtain ⟨u, hu, hw⟩ := ih d h1
      obtain ⟨s, hs, e⟩ := (cnt_pos k).mp h2
      exact ⟨1 + u, by omega, Wk_first hs (e ▸ hw)⟩
/-! reach -/
/-- b is reached from i -/
def Rc (g : Nat → Nat → Nat) (k i b : Nat) : Prop := ∃ t, Wk g k i t b
theorem rc_iff {g : Nat → Nat → Nat} {n k i b : Nat} (hg : ∀ i j, i < n → j < k → g i j < n) (hn : n ≤ 6) (hi : i < n) : (rcA g n k i (n - 1)).testBit b = true ↔ Rc g k i b := by
  rw [rcA_rch hg, rch_tb hg hi]
  constructor
  · rintro ⟨t, _, h⟩; exact ⟨t, h⟩
  · rintro ⟨t, h⟩
    obtain ⟨u, hu, hw⟩ := Wk_b hg hn hi h
    exact ⟨u, hu, hw⟩
theorem Rc_refl {g : Nat → Nat → Nat} {k i : Nat} : Rc g k i i := ⟨0, rfl⟩
theorem Rc_trans {g : Nat → Nat → Nat} {k i u v : Nat} (h : Rc g k i u) (h2 : Rc g k u v) : Rc g k i v := by
  obtain ⟨a, h⟩ := h
  obtain ⟨b, h2⟩ := h2
  exact ⟨a + b, Wk_trans h b v h2⟩
theorem Rc_lt {g : Nat → Nat → Nat} {n k i b : Nat} (hg : ∀ i j, i < n → j < k → g i j < n) (hi : i < n) (h : Rc g k i b) : b < n := by
  obtain ⟨t, h⟩ := h
  exact Wk_lt hg hi t b h
theorem Rc_one {g : Nat → Nat → Nat} {k i s : Nat} (hs : s < k) : Rc g k i (g i s) := ⟨1, Wk_one hs rfl⟩
theorem sb_of {X q : Nat} (h : X.testBit q = true) : X / 2 ^ q &&& 1 = 1 := by
  rw [Nat.and_one_is_mod]
  exact tb_d.mpr h
theorem sb_no {X q : Nat} (h : ¬ X.testBit q = true) : X / 2 ^ q &&& 1 ≠ 1 := by
  rw [Nat.and_one_is_mod]
  exact fun e => h (tb_d.mp e)
theorem sb_to {X q : Nat} (h : X / 2 ^ q &&& 1 = 1) : X.testBit q = true := by
  rw [Nat.and_one_is_mod] at h
  exact tb_d.mp h
/-! periods: what leads back does so in steps that the period divides -/
theorem per_dvd {g : Nat → Nat → Nat} {n k i m : Nat} (hg : ∀ i j, i < n → j < k → g i j < n) (hn : n ≤ 6) (hi : i < n) (h1 : 1 ≤ m) (h2 : m ≤ 12) (h : Wk g k i m i) : 0 < prC g n k i ∧ prC g n k i ∣ m := by
  have hd : prC g n k i ∣ m := by
    rw [period_eq hg hn hi]
    exact prd_dvd hg hi 40 m h1 (by omega) h
  exact ⟨Nat.pos_of_dvd_of_pos hd h1, hd⟩
