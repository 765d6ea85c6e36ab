section MyRows3
variable {p : Program} {l : Launch} {e : Env} {R : Room} {s : State} {m : MethodId} {args : Array Value} {below : List Frame} {meth : Method} {c : Code} {H : Heap} {locs : List Loc} {cells slots : Nat} {Q : State → Prop}
variable {cc : ByteArray} {pc : Nat} {ls : Array Slot} {rest st0 : List Value}
theorem n_if_lt (hx : p.tables.exec = Jvm.exec) (hb : c.code = cc) {x : Nat} {off : Int} {tgt : Nat} (hdg : decode cc pc = .ok (.ifCond .lt off, 3)) (ht : (pc : Int) + off = (tgt : Int)) (bx : x < 2 ^ 31)
    (kt : False → W p l e R s m args below meth c H locs cells slots Q (F0 m tgt ls rest)) (kf : True → W p l e R s m args below meth c H locs cells slots Q (F0 m (pc + 3) ls rest)) : W p l e R s m args below meth c H locs cells slots Q (F0 m pc ls (.int (nI x) :: rest)) :=
  lv_if_lt hx hb hdg ht (fun h => kt (nI_pos bx h)) (fun _ => kf trivial)
theorem n_if_ge (hx : p.tables.exec = Jvm.exec) (hb : c.code = cc) {x : Nat} {off : Int} {tgt : Nat} (hdg : decode cc pc = .ok (.ifCond .ge off, 3)) (ht : (pc : Int) + off = (tgt : Int)) (bx : x < 2 ^ 31)
    (kt : True → W p l e R s m args below meth c H locs cells slots Q (F0 m tgt ls rest)) (kf : False → W p l e R s m args below meth c H locs cells slots Q (F0 m (pc + 3) ls rest)) : W p l e R s m args below meth c H locs cells slots Q (F0 m pc ls (.int (nI x) :: rest)) :=
  lv_if_ge hx hb hdg ht (fun _ => kt trivial) (fun h => kf (h (nI_pos' bx)))
end MyRows3
theorem b3 {a b c : Bool} (h : (a && b && c) = false) (h1 : a = true) (h2 : b = true) (h3 : c = true) : False := by rw [h1, h2, h3] at h; cases h
theorem b2 {a b : Bool} (h : (a && b) = false) (h1 : a = true) (h2 : b = true) : False := by rw [h1, h2] at h; cases h
theorem a2_1 {a b : Bool} (h : (a && b) = true) : a = true := (Bool.and_eq_true _ _ ▸ h).1
theorem a2_2 {a b : Bool} (h : (a && b) = true) : b = true := (Bool.and_eq_true _ _ ▸ h).2
/-- rows of a new chain -/
def TI (ft : Nat → Int32) (u w : Nat) : Prop := (∀ i s, i < u → s < 12 → ft (12 * i + s) = nI i) ∧ ∀ s, s < w → ft (12 * u + s) = nI u
theorem TI_0 {ft : Nat → Int32} : TI ft 0 0 := ⟨fun i s h => by omega, fun s h => by omega⟩
theorem TI_s {ft : Nat → Int32} {u w : Nat} (hw : w < 12) (h : TI ft u w) : TI (upd ft (12 * u + w) (nI u)) u (w + 1) := by
  refine ⟨fun i s hi hs => ?_, fun s hs => ?_⟩
  · rw [pk_un (by omega)]; exact h.1 i s hi hs
  · by_cases e : s = w
    · subst e; rw [pk_us]
    · rw [pk_un (by omega)]; exact h.2 s (by omega)
theorem TI_n {ft : Nat → Int32} {u : Nat} (h : TI ft u 12) : TI ft (u + 1) 0 := by
  refine ⟨fun i s hi hs => ?_, fun s h => by omega⟩
  by_cases e : i = u
  · subst e; exact h.2 s hs
  · exact h.1 i s (by omega) hs
def ZI (f : Nat → Int32) (q : Nat) : Prop := ∀ j, j < q → f j = nI 0
theorem ZI_0 {f : Nat → Int32} : ZI f 0 := fun j h => by omega
theorem ZI_s {f : Nat → Int32} {q : Nat} (h : ZI f q) : ZI (upd f q (nI 0)) (q + 1) := by
  intro j hj
  by_cases e : j = q
  · subst e; rw [pk_us]
  · rw [pk_un e]; exact h j (by omega)
