-- ===== rows of a grid taken out for a call =====
theorem map_flat {α : Type} (f : Nat → α) (l : List Nat) : (l.map (fun i => [f i])).flatten = l.map f := by
  induction l with
  | nil => rfl
  | cons a l ih => rw [List.map_cons, List.flatten_cons, ih]; rfl
/-- a list of cells by number, some taken out -/
def cellsOf (F : Nat → Nat × va_E) (N : Nat) : List va_W := (List.range N).map (fun i => [F i])
theorem cells_flat (F : Nat → Nat × va_E) (N : Nat) : (cellsOf F N).flatten = (List.range N).map F := map_flat F _
theorem cells_get {F : Nat → Nat × va_E} {N j : Nat} (h : j < N) : (cellsOf F N)[j]? = some [F j] := by unfold cellsOf; rw [List.getElem?_map, List.getElem?_range h]; rfl
theorem cells_len (F : Nat → Nat × va_E) (N : Nat) : (cellsOf F N).length = N := by unfold cellsOf; simp
theorem cells_set {F F' : Nat → Nat × va_E} {N j : Nat} (h : ∀ i, i ≠ j → F' i = F i) : (cellsOf F' N).set j [] = (cellsOf F N).set j [] := by
  apply List.ext_getElem?
  intro i
  by_cases e : j = i
  · subst e
    by_cases hj : j < N
    · rw [List.getElem?_set_self (by rw [cells_len]; exact hj), List.getElem?_set_self (by rw [cells_len]; exact hj)]
    · rw [List.getElem?_eq_none (by rw [List.length_set, cells_len]; omega), List.getElem?_eq_none (by rw [List.length_set, cells_len]; omega)]
  · rw [List.getElem?_set_ne e, List.getElem?_set_ne e]
    by_cases hi : i < N
    · rw [cells_get hi, cells_get hi, h i (Ne.symm e)]
    · rw [List.getElem?_eq_none (by rw [cells_len]; omega), List.getElem?_eq_none (by rw [cells_len]; omega)]
theorem cells_1 {F : Nat → Nat × va_E} {N j : Nat} (hj : j < N) : ((List.range N).map F).Perm (((cellsOf F N).set j []).flatten ++ [F j]) := by
  rw [← cells_flat]
  exact (bl_out (cells_get hj)).trans List.perm_append_comm
theorem cells_2 {F : Nat → Nat × va_E} {N i j : Nat} (hi : i < N) (hj : j < N) (h : i ≠ j) : ((List.range N).map F).Perm (((((cellsOf F N).set j []).set i []).flatten ++ [F i]) ++ [F j]) := by
  refine (cells_1 hj).trans (List.Perm.append_right _ ?_)
  have e : ((cellsOf F N).set j [])[i]? = some [F i] := by rw [List.getElem?_set_ne (Ne.symm h)]; exact cells_get hi
  exact (bl_out e).trans List.perm_append_comm
theorem bl_swp {BL : List va_W} {b : Nat} {B B' : va_W} (hb : BL[b]? = some B) (hp : B.Perm B') : BL.flatten.Perm (BL.set b B').flatten := by
  have hl := (List.getElem?_eq_some_iff.mp hb).1
  have e2 : (BL.set b B')[b]? = some B' := List.getElem?_set_self hl
  have h2 := bl_out e2
  rw [List.set_set] at h2
  exact ((bl_out hb).trans (List.Perm.append_right _ hp)).trans h2.symm
theorem bl_tak {BL : List va_W} {b : Nat} {G X R1 : va_W} (hb : BL[b]? = some G) (hp : G.Perm (X ++ R1)) : BL.flatten.Perm (BL.set b X ++ [R1]).flatten := by
  have hl := (List.getElem?_eq_some_iff.mp hb).1
  have e2 : (BL.set b X)[b]? = some X := List.getElem?_set_self hl
  have h2 := bl_out e2
  rw [List.set_set] at h2
  rw [List.flatten_append]
  have h3 : (BL.set b (X ++ R1)).flatten.Perm ((BL.set b X).flatten ++ [R1].flatten) := by
    have e3 : (BL.set b (X ++ R1))[b]? = some (X ++ R1) := List.getElem?_set_self hl
    have h4 := bl_out e3
    rw [List.set_set] at h4
    refine h4.trans ?_
    have e5 : ([R1] : List va_W).flatten = R1 := by simp
    rw [e5, List.append_assoc]
    refine (List.Perm.append_left X List.perm_append_comm).trans ?_
    rw [← List.append_assoc]
    exact List.Perm.append_right R1 h2.symm
  exact (bl_swp hb hp).trans h3
abbrev rwI (cA : ClassId) (a n : Nat) (f : Nat → Int32) : va_W := [(a, .inl (cA, n, .inl f))]
abbrev rwJ (cA : ClassId) (a n : Nat) (f : Nat → Int64) : va_W := [(a, .inl (cA, n, .inr (.inl f)))]
section RowOut
variable {A : Nat → Prop} {D : va_G} {BL : List va_W} {H : Heap}
theorem g_outI {cA : ClassId} {r : Nat → Nat} {n N b j : Nat} {M : Nat → Nat → Int32} (hP : va_P D vwCl BL.flatten H) (hD : va_D A BL.flatten) (hb : BL[b]? = some (gI cA r n M N)) (hj : j < N) :
    ∃ X : va_W, va_P D vwCl (BL.set b X ++ [rwI cA (r j) n (M j)]).flatten H ∧ va_D A (BL.set b X ++ [rwI cA (r j) n (M j)]).flatten ∧
      ∀ (f : Nat → Int32) (H1 : Heap), va_P D vwCl (BL.set b X ++ [rwI cA (r j) n f]).flatten H1 → va_D A (BL.set b X ++ [rwI cA (r j) n f]).flatten → va_P D vwCl (BL.set b (gI cA r n (va_up M j f) N)).flatten H1 ∧ va_D A (BL.set b (gI cA r n (va_up M j f) N)).flatten := by
  have hl := (List.getElem?_eq_some_iff.mp hb).1
  refine ⟨((cellsOf (fun i => (r i, .inl (cA, n, .inl (M i)))) N).set j []).flatten, ?_, ?_, fun f H1 h1 h2 => ?_⟩
  · exact vP_perm (bl_tak hb (cells_1 hj)) hP
  · exact vD_perm (bl_tak hb (cells_1 hj)) hD
  · have e : (BL.set b (gI cA r n (va_up M j f) N))[b]? = some (gI cA r n (va_up M j f) N) := List.getElem?_set_self hl
    have hp : (gI cA r n (va_up M j f) N).Perm (((cellsOf (fun i => ((r i, .inl (cA, n, .inl (M i))) : Nat × va_E)) N).set j []).flatten ++ [(r j, .inl (cA, n, .inl f))]) := by
      have := cells_1 (F := fun i => ((r i, .inl (cA, n, .inl (va_up M j f i))) : Nat × va_E)) hj
      rw [cells_set (F := fun i => ((r i, .inl (cA, n, .inl (M i))) : Nat × va_E)) (fun i hi => by rw [va_up_ne _ _ hi])] at this
      rw [show va_up M j f j = f from va_up_self ..] at this
      exact this
    have h3 := bl_tak e hp
    rw [List.set_set] at h3
    exact ⟨vP_perm h3.symm h1, vD_perm h3.symm h2⟩
theorem g_outJ {cA : ClassId} {r : Nat → Nat} {n N b j : Nat} {M : Nat → Nat → Int64} (hP : va_P D vwCl BL.flatten H) (hD : va_D A BL.flatten) (hb : BL[b]? = some (gJ cA r n M N)) (hj : j < N) :
    ∃ X : va_W, va_P D vwCl (BL.set b X ++ [rwJ cA (r j) n (M j)]).flatten H ∧ va_D A (BL.set b X ++ [rwJ cA (r j) n (M j)]).flatten ∧
      (∀ H1 : Heap, va_P D vwCl (BL.set b X ++ [rwJ cA (r j) n (M j)]).flatten H1 → va_D A (BL.set b X ++ [rwJ cA (r j) n (M j)]).flatten → va_P D vwCl BL.flatten H1 ∧ va_D A BL.flatten) ∧
      ∀ (f : Nat → Int64) (H1 : Heap), va_P D vwCl (BL.set b X ++ [rwJ cA (r j) n f]).flatten H1 → va_D A (BL.set b X ++ [rwJ cA (r j) n f]).flatten → va_P D vwCl (BL.set b (gJ cA r n (va_up M j f) N)).flatten H1 ∧ va_D A (BL.set b (gJ cA r n (va_up M j f) N)).flatten := by
  have hl := (List.getElem?_eq_some_iff.mp hb).1
  refine ⟨((cellsOf (fun i => (r i, .inl (cA, n, .inr (.inl (M i))))) N).set j []).flatten, ?_, ?_, fun H1 h1 h2 => ?_, fun f H1 h1 h2 => ?_⟩
  · exact vP_perm (bl_tak hb (cells_1 hj)) hP
  · exact vD_perm (bl_tak hb (cells_1 hj)) hD
  · exact ⟨vP_perm (bl_tak hb (cells_1 hj)).symm h1, vD_perm (bl_tak hb (cells_1 hj)).symm h2⟩
  · have e : (BL.set b (gJ cA r n (va_up M j f) N))[b]? = some (gJ cA r n (va_up M j f) N) := List.getElem?_set_self hl
    have hp : (gJ cA r n (va_up M j f) N).Perm (((cellsOf (fun i => ((r i, .inl (cA, n, .inr (.inl (M i)))) : Nat × va_E)) N).set j []).flatten ++ [(r j, .inl (cA, n, .inr (.inl f)))]) := by
      have := cells_1 (F := fun i => ((r i, .inl (cA, n, .inr (.inl (va_up M j f i)))) : Nat × va_E)) hj
      rw [cells_set (F := fun i => ((r i, .inl (cA, n, .inr (.inl (M i)))) : Nat × va_E)) (fun i hi => by rw [va_up_ne _ _ hi])] at this
      rw [show va_up M j f j = f from va_up_self ..] at this
      exact this
    have h3 := bl_tak e hp
    rw [List.set_set] at h3
    exact ⟨vP_perm h3.symm h1, vD_perm h3.symm h2⟩
/-- two rows, of which the second one may change -/
theorem g_out2 {cA : ClassId} {r : Nat → Nat} {n N b i j : Nat} {M : Nat → Nat → Int64} (hP : va_P D vwCl BL.flatten H) (hD : va_D A BL.flatten) (hb : BL[b]? = some (gJ cA r n M N)) (hi : i < N) (hj : j < N) (hij : i ≠ j) :
    ∃ X : va_W, va_P D vwCl ((BL.set b X ++ [rwJ cA (r i) n (M i)]) ++ [rwJ cA (r j) n (M j)]).flatten H ∧ va_D A ((BL.set b X ++ [rwJ cA (r i) n (M i)]) ++ [rwJ cA (r j) n (M j)]).flatten ∧
      ∀ (f : Nat → Int64) (H1 : Heap), va_P D vwCl ((BL.set b X ++ [rwJ cA (r i) n (M i)]) ++ [rwJ cA (r j) n f]).flatten H1 → va_D A ((BL.set b X ++ [rwJ cA (r i) n (M i)]) ++ [rwJ cA (r j) n f]).flatten → va_P D vwCl (BL.set b (gJ cA r n (va_up M j f) N)).flatten H1 ∧ va_D A (BL.set b (gJ cA r n (va_up M j f) N)).flatten := by
  have hl := (List.getElem?_eq_some_iff.mp hb).1
  have key : ∀ (F : Nat → Nat × va_E) (BL2 : List va_W) (Y R1 R2 : va_W), BL2[b]? = some ((List.range N).map F) → ((List.range N).map F).Perm ((Y ++ R1) ++ R2) → BL2.flatten.Perm ((BL2.set b Y ++ [R1]) ++ [R2]).flatten := by
    intro F BL2 Y R1 R2 h1 h2
    have hl2 := (List.getElem?_eq_some_iff.mp h1).1
    have h3 := bl_tak h1 h2
    have e3 : (BL2.set b (Y ++ R1))[b]? = some (Y ++ R1) := List.getElem?_set_self hl2
    have h4 := bl_tak e3 (List.Perm.refl _)
    rw [List.set_set] at h4
    rw [List.flatten_append] at h3
    rw [List.flatten_append]
    exact h3.trans (List.Perm.append_right _ h4)
  refine ⟨(((cellsOf (fun i => (r i, .inl (cA, n, .inr (.inl (M i))))) N).set j []).set i []).flatten, ?_, ?_, fun f H1 h1 h2 => ?_⟩
  · exact vP_perm (key _ BL _ _ _ hb (cells_2 hi hj hij)) hP
  · exact vD_perm (key _ BL _ _ _ hb (cells_2 hi hj hij)) hD
  · have e : (BL.set b (gJ cA r n (va_up M j f) N))[b]? = some (gJ cA r n (va_up M j f) N) := List.getElem?_set_self hl
    have hp : (gJ cA r n (va_up M j f) N).Perm ((((((cellsOf (fun i => ((r i, .inl (cA, n, .inr (.inl (M i)))) : Nat × va_E)) N).set j []).set i []).flatten ++ [(r i, .inl (cA, n, .inr (.inl (M i))))]) ++ [(r j, .inl (cA, n, .inr (.inl f)))]) : va_W) := by
      have := cells_2 (F := fun i => ((r i, .inl (cA, n, .inr (.inl (va_up M j f i)))) : Nat × va_E)) hi hj hij
      rw [cells_set (F := fun i => ((r i, .inl (cA, n, .inr (.inl (M i)))) : Nat × va_E)) (fun i hi => by rw [va_up_ne _ _ hi])] at this
      rw [show va_up M j f j = f from va_up_self .., show va_up M j f i = M i from va_up_ne _ _ hij] at this
      exact this
    have h3 := key _ _ _ _ _ e hp
    rw [List.set_set] at h3
    exact ⟨vP_perm h3.symm h1, vD_perm h3.symm h2⟩
end RowOut
section MyRows4
variable {p : Program} {l : Launch} {e : Env} {R : Room} {s : State} {m : MethodId} {args : Array Value} {below : List Frame} {meth : Method} {c : Code} {H : Heap} {locs : List Loc} {cells slots : Nat} {Q : State → Prop}
variable {cc : ByteArray} {pc : Nat} {ls : Array Slot} {rest st0 : List Value} {D : va_G} {A : Nat → Prop} {a : Nat} {tys : List (ClassId × FieldType)} {BL : List va_W}
theorem b_alen (hx : p.tables.exec = Jvm.exec) (hb : c.code = cc) (hK : va_K D vwCl tys s) (hP : va_P D vwCl BL.flatten H) (b t0 : Nat) {cA : ClassId} {x : vp_A} (ha : BL[b]? = some [(a, .inl (cA, x))]) {ty : FieldType} (ht : tys[t0]? = some (cA, ty)) (hdg : decode cc pc = .ok (.arraylength, 1))
    (kk : W p l e R s m args below meth c H locs cells slots Q (F0 m (pc + 1) ls (.int (nI x.1) :: rest))) : W p l e R s m args below meth c H locs cells slots Q (F0 m pc ls (.ref a :: rest)) := by
  obtain ⟨q0, h1, -⟩ := bl_get (i := 0) ha rfl
  exact va_alen hx hb hK hP q0 t0 h1 ht rfl hdg kk
end MyRows4
abbrev hO (b : Nat → Nat) : va_W := [(b 0, .inr (8, [.ref (b 1), .ref (b 4), .ref (b 7), .ref (b 10), .ref (b 11), .ref (b 15), .ref (b 18), .ref (b 21)]))]
abbrev cO (b : Nat → Nat) (st sl : Int32) : va_W := [(b 1, .inr (0, [.int st, .int sl, .ref (b 2), .ref (b 3)]))]
abbrev lO (b : Nat → Nat) : va_W := [(b 4, .inr (5, [.ref (b 1), .ref (b 5), .ref (b 6)]))]
abbrev kO (b : Nat → Nat) : va_W := [(b 7, .inr (2, [.ref (b 1), .ref (b 8), .ref (b 9)]))]
abbrev sO (b : Nat → Nat) : va_W := [(b 10, .inr (1, [.ref (b 1)]))]
abbrev tO (b : Nat → Nat) : va_W := [(b 11, .inr (7, [.ref (b 1), .ref (b 12), .ref (b 13), .ref (b 14)]))]
abbrev dO (b : Nat → Nat) : va_W := [(b 15, .inr (3, [.ref (b 1), .ref (b 16), .ref (b 17)]))]
abbrev gO (b : Nat → Nat) : va_W := [(b 18, .inr (4, [.ref (b 1), .ref (b 19), .ref (b 20)]))]
abbrev uO (b : Nat → Nat) : va_W := [(b 21, .inr (6, [.ref (b 1), .ref (b 22)]))]
