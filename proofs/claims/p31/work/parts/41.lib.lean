abbrev vwCl : List vw_C := [(RX0, TX0, 4), (RX1, TX1, 1), (RX2, TX2, 3), (RX3, TX3, 3), (RX4, TX4, 3), (RX5, TX5, 3), (RX6, TX6, 2), (RX7, TX7, 4), (RX8, TX8, 8)]
-- ===== worlds in blocks: a world is the flattening of a list of blocks; own rows =====
theorem bl_get : ∀ {BL : List va_W} {B : va_W} {b i : Nat} {q : Nat × va_E}, BL[b]? = some B → B[i]? = some q → ∃ q0 : Nat, BL.flatten[q0]? = some q ∧ ∀ z : Nat × va_E, BL.flatten.set q0 z = (BL.set b (B.set i z)).flatten := by
  intro BL
  induction BL with
  | nil => intro B b i q h; simp at h
  | cons X BL ih =>
    intro B b i q hb hi
    cases b with
    | zero =>
      have e : X = B := by simpa using hb
      subst e
      have hl : i < X.length := (List.getElem?_eq_some_iff.mp hi).1
      refine ⟨i, ?_, fun z => ?_⟩
      · rw [List.flatten_cons, List.getElem?_append_left hl]; exact hi
      · rw [List.flatten_cons, List.set_append_left _ _ hl]; rfl
    | succ b =>
      have hb' : BL[b]? = some B := by simpa using hb
      obtain ⟨q0, h1, h2⟩ := ih hb' hi
      refine ⟨X.length + q0, ?_, fun z => ?_⟩
      · rw [List.flatten_cons, List.getElem?_append_right (Nat.le_add_right _ _), Nat.add_sub_cancel_left]; exact h1
      · rw [List.flatten_cons, List.set_append_right _ _ (Nat.le_add_right _ _), Nat.add_sub_cancel_left, h2]; rfl
theorem vP_mem {D : va_G} {cl : List vw_C} {ws : va_W} {H : Heap} : va_P D cl ws H ↔ ∀ q ∈ ws, va_at D cl q H :=
  ⟨fun h q hq => by obtain ⟨k, hk⟩ := List.getElem?_of_mem hq; exact h k q hk, fun h k q hk => h q (List.mem_of_getElem? hk)⟩
theorem vP_app {D : va_G} {cl : List vw_C} {a b : va_W} {H : Heap} : va_P D cl (a ++ b) H ↔ va_P D cl a H ∧ va_P D cl b H := by
  rw [vP_mem, vP_mem, vP_mem]
  exact ⟨fun h => ⟨fun q hq => h q (List.mem_append_left _ hq), fun q hq => h q (List.mem_append_right _ hq)⟩, fun h q hq => (List.mem_append.mp hq).elim (h.1 q) (h.2 q)⟩
theorem vD_mem {A : Nat → Prop} {ws : va_W} : va_D A ws ↔ (ws.map Prod.fst).Nodup ∧ ∀ q ∈ ws, A q.1 := by
  constructor
  · intro h
    refine ⟨?_, fun q hq => by obtain ⟨k, hk⟩ := List.getElem?_of_mem hq; exact h.2 k q hk⟩
    rw [List.Nodup, List.pairwise_iff_getElem]
    intro i j hi hj hij e
    have hi' : i < ws.length := by simpa using hi
    have hj' : j < ws.length := by simpa using hj
    have := h.1 j i ws[j] ws[i] (List.getElem?_eq_getElem hj') (List.getElem?_eq_getElem hi') (by simpa using e.symm)
    omega
  · intro h
    refine ⟨fun i j p q hi hj e => ?_, fun k q hk => h.2 q (List.mem_of_getElem? hk)⟩
    obtain ⟨hi', ei⟩ := List.getElem?_eq_some_iff.mp hi
    obtain ⟨hj', ej⟩ := List.getElem?_eq_some_iff.mp hj
    have h1 := h.1
    rw [List.Nodup, List.pairwise_iff_getElem] at h1
    rcases Nat.lt_trichotomy i j with q1 | q1 | q1
    · exact (h1 i j (by simpa using hi') (by simpa using hj') q1 (by simp [ei, ej, e])).elim
    · exact q1
    · exact (h1 j i (by simpa using hj') (by simpa using hi') q1 (by simp [ei, ej, e])).elim
theorem vP_perm {D : va_G} {cl : List vw_C} {ws ws' : va_W} {H : Heap} (hp : ws.Perm ws') (h : va_P D cl ws H) : va_P D cl ws' H :=
  vP_mem.mpr fun q hq => vP_mem.mp h q (hp.mem_iff.mpr hq)
theorem vD_perm {A : Nat → Prop} {ws ws' : va_W} (hp : ws.Perm ws') (h : va_D A ws) : va_D A ws' :=
  vD_mem.mpr ⟨(hp.map Prod.fst).nodup_iff.mp (vD_mem.mp h).1, fun q hq => (vD_mem.mp h).2 q (hp.mem_iff.mpr hq)⟩
theorem vA_mem {ws : va_W} {sz q : Nat} : va_A ws sz q ↔ (∃ e, (q, e) ∈ ws) ∨ sz ≤ q := by
  constructor
  · rintro (⟨k, e, h⟩ | h)
    · exact Or.inl ⟨e, List.mem_of_getElem? h⟩
    · exact Or.inr h
  · rintro (⟨e, h⟩ | h)
    · obtain ⟨k, hk⟩ := List.getElem?_of_mem h
      exact Or.inl ⟨k, e, hk⟩
    · exact Or.inr h
/-- blocks put at places -/
def putB (BL : List va_W) : List Nat → List va_W → List va_W
  | i :: is, c :: cs => putB (BL.set i c) is cs
  | _, _ => BL
theorem bl_out : ∀ {BL : List va_W} {i : Nat} {c : va_W}, BL[i]? = some c → BL.flatten.Perm (c ++ (BL.set i []).flatten) := by
  intro BL
  induction BL with
  | nil => intro i c h; simp at h
  | cons X BL ih =>
    intro i c h
    cases i with
    | zero =>
      have e : X = c := by simpa using h
      subst e
      exact List.Perm.refl _
    | succ i =>
      have h' : BL[i]? = some c := by simpa using h
      have h1 : (X :: BL).flatten.Perm (X ++ (c ++ (BL.set i []).flatten)) := by
        rw [List.flatten_cons]
        exact List.Perm.append_left X (ih h')
      refine h1.trans ?_
      show (X ++ (c ++ (BL.set i []).flatten)).Perm (c ++ (X :: BL.set i []).flatten)
      rw [List.flatten_cons, ← List.append_assoc, ← List.append_assoc]
      exact List.Perm.append_right _ List.perm_append_comm
theorem set_nil {BL : List va_W} {i : Nat} (h : BL[i]? = some []) (c : va_W) : (BL.set i c).set i [] = BL := by
  rw [List.set_set]
  apply List.ext_getElem?
  intro j
  by_cases e : i = j
  · subst e
    have hl := (List.getElem?_eq_some_iff.mp h).1
    rw [List.getElem?_set_self hl, h]
  · rw [List.getElem?_set_ne e]
theorem bl_in {BL : List va_W} {i : Nat} (h : BL[i]? = some []) (c : va_W) : (BL.set i c).flatten.Perm (c ++ BL.flatten) := by
  have hl := (List.getElem?_eq_some_iff.mp h).1
  have h1 : (BL.set i c)[i]? = some c := List.getElem?_set_self hl
  have := bl_out h1
  rw [set_nil h] at this
  exact this
theorem putB_set : ∀ (is : List Nat) (cs : List va_W) (BL : List va_W) (i : Nat) (c : va_W), i ∉ is → putB (BL.set i c) is cs = (putB BL is cs).set i c := by
  intro is
  induction is with
  | nil => intro cs BL i c _; cases cs <;> rfl
  | cons j is ih =>
    intro cs BL i c hi
    cases cs with
    | nil => rfl
    | cons d cs =>
      have hij : i ≠ j := fun e => hi (by rw [e]; exact List.mem_cons_self)
      show putB ((BL.set i c).set j d) is cs = (putB (BL.set j d) is cs).set i c
      rw [List.set_comm c d hij, ih cs _ i c (fun h => hi (List.mem_cons_of_mem _ h))]
theorem putB_get : ∀ (is : List Nat) (cs : List va_W) (BL : List va_W) (i : Nat), i ∉ is → (putB BL is cs)[i]? = BL[i]? := by
  intro is
  induction is with
  | nil => intro cs BL i _; cases cs <;> rfl
  | cons j is ih =>
    intro cs BL i hi
    cases cs with
    | nil => rfl
    | cons d cs =>
      have hij : j ≠ i := fun e => hi (by rw [e]; exact List.mem_cons_self)
      show (putB (BL.set j d) is cs)[i]? = BL[i]?
      rw [ih cs _ i (fun h => hi (List.mem_cons_of_mem _ h)), List.getElem?_set_ne hij]
theorem bl_split : ∀ (isC : List Nat) (BL CL : List va_W), isC.map (fun i => BL[i]?) = CL.map some → va_nd isC = true → ∃ RL : va_W, BL.flatten.Perm (CL.flatten ++ RL) ∧ ∀ CL1 : List va_W, CL1.length = CL.length → (putB BL isC CL1).flatten.Perm (CL1.flatten ++ RL) := by
  intro isC
  induction isC with
  | nil =>
    intro BL CL hC _
    cases CL with
    | nil =>
      refine ⟨BL.flatten, List.Perm.refl _, fun CL1 h => ?_⟩
      cases CL1 with
      | nil => exact List.Perm.refl _
      | cons c cs => simp at h
    | cons c cs => simp at hC
  | cons i is ih =>
    intro BL CL hC hn
    cases CL with
    | nil => simp at hC
    | cons c cs =>
      have hc : BL[i]? = some c := by
        have := congrArg (fun l => l.head?) hC
        simpa using this
      have hcs : is.map (fun i => BL[i]?) = cs.map some := by
        have := congrArg (fun l => l.tail) hC
        simpa using this
      have hi : i ∉ is := by
        have : (decide (i ∉ is) && va_nd is) = true := hn
        exact of_decide_eq_true (Bool.and_eq_true _ _ ▸ this).1
      have hn' : va_nd is = true := by
        have : (decide (i ∉ is) && va_nd is) = true := hn
        exact (Bool.and_eq_true _ _ ▸ this).2
      have hl := (List.getElem?_eq_some_iff.mp hc).1
      have h0 : is.map (fun j => (BL.set i [])[j]?) = cs.map some := by
        rw [← hcs]
        apply List.map_congr_left
        intro j hj
        have hij : i ≠ j := fun e => hi (by rw [e]; exact hj)
        exact List.getElem?_set_ne hij
      obtain ⟨RL, r1, r2⟩ := ih (BL.set i []) cs h0 hn'
      refine ⟨RL, ?_, fun CL1 hl1 => ?_⟩
      · refine (bl_out hc).trans ?_
        rw [List.flatten_cons, List.append_assoc]
        exact List.Perm.append_left c r1
      · cases CL1 with
        | nil => simp at hl1
        | cons c1 cs1 =>
          have hl2 : cs1.length = cs.length := by simpa using hl1
          have e1 : putB BL (i :: is) (c1 :: cs1) = (putB (BL.set i []) is cs1).set i c1 := by
            show putB (BL.set i c1) is cs1 = _
            rw [← putB_set is cs1 _ i c1 hi, List.set_set]
          have e2 : (putB (BL.set i []) is cs1)[i]? = some [] := by
            rw [putB_get is cs1 _ i hi]
            exact List.getElem?_set_self hl
          rw [e1, List.flatten_cons, List.append_assoc]
          exact (bl_in e2 c1).trans (List.Perm.append_left c1 (r2 cs1 hl2))
theorem bl_cutP {D : va_G} {cl : List vw_C} {BL CL : List va_W} {H : Heap} (hP : va_P D cl BL.flatten H) (isC : List Nat) (hC : isC.map (fun i => BL[i]?) = CL.map some) (hn : va_nd isC = true) : va_P D cl CL.flatten H := by
  obtain ⟨RL, r1, -⟩ := bl_split isC BL CL hC hn
  exact (vP_app.mp (vP_perm r1 hP)).1
theorem bl_cutD {A : Nat → Prop} {BL CL : List va_W} (hD : va_D A BL.flatten) (isC : List Nat) (hC : isC.map (fun i => BL[i]?) = CL.map some) (hn : va_nd isC = true) : va_D A CL.flatten := by
  obtain ⟨RL, r1, -⟩ := bl_split isC BL CL hC hn
  have h := vD_mem.mp (vD_perm r1 hD)
  refine vD_mem.mpr ⟨?_, fun q hq => h.2 q (List.mem_append_left _ hq)⟩
  have h1 := h.1
  rw [List.map_append, List.nodup_append] at h1
  exact h1.1
theorem bl_free {A0 : Nat → Prop} {BL CL : List va_W} {H0 H : Heap} {locs : List Loc} (hD : va_D A0 BL.flatten) (hS : va_S A0 H0 H locs) (hA : ∀ q, H0.size ≤ q → A0 q) (isC : List Nat) (hC : isC.map (fun i => BL[i]?) = CL.map some) (hn : va_nd isC = true) : ∀ q, va_A CL.flatten H.size q → A0 q := by
  intro q hq
  rcases vA_mem.mp hq with ⟨e, h⟩ | h
  · exact (vD_mem.mp (bl_cutD hD isC hC hn)).2 (q, e) h
  · exact hA q (Nat.le_trans hS.1 h)
theorem bl_join {A0 : Nat → Prop} {D : va_G} {cl : List vw_C} {BL CL CL1 : List va_W} {H H1 : Heap} (hP : va_P D cl BL.flatten H) (hD : va_D A0 BL.flatten) (isC : List Nat) (hC : isC.map (fun i => BL[i]?) = CL.map some) (hn : va_nd isC = true) (hl : CL1.length = CL.length)
    (hk : ∀ q : Nat, q < H.size → ¬ va_A CL.flatten H.size q → H1[q]? = H[q]?) (hF : ∀ q, va_A CL.flatten H.size q → A0 q) (hP1 : va_P D cl CL1.flatten H1) (hD1 : va_D (va_A CL.flatten H.size) CL1.flatten) : va_P D cl (putB BL isC CL1).flatten H1 ∧ va_D A0 (putB BL isC CL1).flatten := by
  obtain ⟨RL, r1, r2⟩ := bl_split isC BL CL hC hn
  have hP' := vP_app.mp (vP_perm r1 hP)
  have hD' := vD_mem.mp (vD_perm r1 hD)
  have hnd := hD'.1
  rw [List.map_append, List.nodup_append] at hnd
  have hlt : ∀ q ∈ RL, q.1 < H.size := fun q hq => (vP_mem.mp hP'.2 q hq).lt
  have hout : ∀ q ∈ RL, ¬ va_A CL.flatten H.size q.1 := by
    intro q hq h
    rcases vA_mem.mp h with ⟨e, h⟩ | h
    · exact hnd.2.2 q.1 (List.mem_map.mpr ⟨(q.1, e), h, rfl⟩) q.1 (List.mem_map.mpr ⟨q, hq, rfl⟩) rfl
    · exact absurd (hlt q hq) (Nat.not_lt.mpr h)
  have hD1' := vD_mem.mp hD1
  refine ⟨vP_perm (r2 CL1 hl).symm (vP_app.mpr ⟨hP1, vP_mem.mpr fun q hq => (vP_mem.mp hP'.2 q hq).kept (hk q.1 (hlt q hq) (hout q hq))⟩), vD_perm (r2 CL1 hl).symm (vD_mem.mpr ⟨?_, fun q hq => ?_⟩)⟩
  · rw [List.map_append, List.nodup_append]
    refine ⟨hD1'.1, hnd.2.1, fun a ha b hb e => ?_⟩
    obtain ⟨x, hx, rfl⟩ := List.mem_map.mp ha
    obtain ⟨y, hy, rfl⟩ := List.mem_map.mp hb
    exact hout y hy (e ▸ hD1'.2 x hx)
  · rcases List.mem_append.mp hq with h | h
    · exact hF q.1 (hD1'.2 q h)
    · exact hD'.2 q (List.mem_append_right _ h)
-- the array classes: int, long, int[], long[], double
abbrev tyz (cY : Nat → ClassId) : List (ClassId × FieldType) := [(cY 0, .int), (cY 1, .long), (cY 2, .array .int), (cY 3, .array .long)]
/-- rows of ints; rows of longs; the outer array over rows -/
def gI (cA : ClassId) (r : Nat → Nat) (n : Nat) (M : Nat → Nat → Int32) (N : Nat) : va_W := (List.range N).map (fun j => (r j, .inl (cA, n, .inl (M j))))
def gJ (cA : ClassId) (r : Nat → Nat) (n : Nat) (M : Nat → Nat → Int64) (N : Nat) : va_W := (List.range N).map (fun j => (r j, .inl (cA, n, .inr (.inl (M j)))))
def oQ (cA : ClassId) (q : Nat) (r : Nat → Nat) (N : Nat) : va_W := [(q, .inl (cA, N, .inr (.inr (.inr (.inr (fun i => if i < N then some (r i) else none))))))]
theorem gI_get {cA : ClassId} {r : Nat → Nat} {n : Nat} {M : Nat → Nat → Int32} {N j : Nat} (h : j < N) : (gI cA r n M N)[j]? = some (r j, .inl (cA, n, .inl (M j))) := by
  unfold gI; rw [List.getElem?_map, List.getElem?_range h]; rfl
theorem gJ_get {cA : ClassId} {r : Nat → Nat} {n : Nat} {M : Nat → Nat → Int64} {N j : Nat} (h : j < N) : (gJ cA r n M N)[j]? = some (r j, .inl (cA, n, .inr (.inl (M j)))) := by
  unfold gJ; rw [List.getElem?_map, List.getElem?_range h]; rfl
theorem gI_set {cA : ClassId} {r : Nat → Nat} {n : Nat} {M : Nat → Nat → Int32} {N j : Nat} {f : Nat → Int32} (h : j < N) : (gI cA r n M N).set j (r j, .inl (cA, n, .inl f)) = gI cA r n (va_up M j f) N := by
  apply List.ext_getElem?
  intro i
  by_cases e : j = i
  · subst e
    rw [List.getElem?_set_self (by unfold gI; simpa using h), gI_get h, va_up_self]
  · rw [List.getElem?_set_ne e]
    by_cases hi : i < N
    · rw [gI_get hi, gI_get hi, va_up_ne _ _ (Ne.symm e)]
    · rw [List.getElem?_eq_none (by unfold gI; simpa using hi), List.getElem?_eq_none (by unfold gI; simpa using hi)]
theorem gJ_set {cA : ClassId} {r : Nat → Nat} {n : Nat} {M : Nat → Nat → Int64} {N j : Nat} {f : Nat → Int64} (h : j < N) : (gJ cA r n M N).set j (r j, .inl (cA, n, .inr (.inl f))) = gJ cA r n (va_up M j f) N := by
  apply List.ext_getElem?
  intro i
  by_cases e : j = i
  · subst e
    rw [List.getElem?_set_self (by unfold gJ; simpa using h), gJ_get h, va_up_self]
  · rw [List.getElem?_set_ne e]
    by_cases hi : i < N
    · rw [gJ_get hi, gJ_get hi, va_up_ne _ _ (Ne.symm e)]
    · rw [List.getElem?_eq_none (by unfold gJ; simpa using hi), List.getElem?_eq_none (by unfold gJ; simpa using hi)]
-- loops
theorem lpW {P : Nat → Prop} (N : Nat) (h : ∀ i, i ≤ N → (i < N → P (i + 1)) → P i) : ∀ i, i ≤ N → P i := by
  have key : ∀ d i, i ≤ N → N - i = d → P i := by
    intro d
    induction d with
    | zero => intro i hi e; exact h i hi (fun q => by omega)
    | succ d ih => intro i hi e; exact h i hi (fun q => ih (i + 1) q (by omega))
  exact fun i hi => key _ i hi rfl
theorem lpD {P : Nat → Prop} (h : ∀ i, (∀ j, i = j + 1 → P j) → P i) : ∀ i, P i := by
  intro i
  induction i with
  | zero => exact h 0 (fun j e => by omega)
  | succ i ih => exact h (i + 1) (fun j e => by have : j = i := by omega
                                                subst this; exact ih)
