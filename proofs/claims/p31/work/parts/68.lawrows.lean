/-! ===== methods that read the script ===== -/
abbrev cPS (D : va_G) (cY : Nat → ClassId) (av : List Value) (sc L : Nat) (xs : Nat → Int32) (sz : Nat) : Array Value → State → Prop := va_Pc av (fun U => U.heap.size = sz ∧ vKA D cY U ∧ va_X sc L xs U U.heap ∧ sc < U.heap.size)
theorem cPS_blind {D : va_G} {cY : Nat → ClassId} {av : List Value} {sc L : Nat} {xs : Nat → Int32} {sz : Nat} : FrameBlind (cPS D cY av sc L xs sz) := fun a U g mk q => by
  obtain ⟨q0, q1, qK, qX, qb⟩ := q
  exact ⟨q0, q1, qK.call, va_X.moved (u := U) (U := U.calling g mk a) (Vm.Alike.refl U.vm) qX, qb⟩
theorem nil_P {D : va_G} {H : Heap} : va_P D vwCl ([] : List va_W).flatten H := fun k q h => by simp at h
theorem nil_D {A : Nat → Prop} : va_D A ([] : List va_W).flatten := ⟨fun i j p q h => by simp at h, fun k q h => by simp at h⟩
theorem nil_A {sz q : Nat} (h : q < sz) : ¬ va_A ([] : List va_W).flatten sz q := by
  intro h2
  rcases vA_mem.mp h2 with ⟨e, h3⟩ | h3
  · simp at h3
  · omega
theorem mtS {l : Launch} {y : MethodName} {ws ws' : List Cond} {rm : Room} {cc : ByteArray} {maxL : Nat} {ret : Option FieldType} {D : va_G} {cY : Nat → ClassId} {av : List Value} {sc L : Nat} {xs : Nat → Int32} {sz : Nat} {Qc : (Nat → Prop) → Array Value → State → Outcome → State → Prop} {mc ms : Nat} (hy : plainName y.cls = true) (hw : ws = Cond.code y cc maxL ret :: ws') (hlen : (lg_sl av).length ≤ maxL)
    (body : ∀ (p : Program) (e : Env) (s : State) (m : MethodId) (below : List Frame) (meth : Method) (c : Code) (A : Nat → Prop) (ls : Array Slot), p.tables.exec = Jvm.exec → c.code = cc → meth.sig.returnType = ret → c.maxLocals = maxL → (∀ w ∈ ws, w.before av.toArray s = true) → s.vm.findClass y.cls = some m.cls → meth.locks = false → s.heap.size = sz → va_K D vwCl (tyz cY) s → vKA D cY s → va_S A s.heap s.heap [] → (∀ q, s.heap.size ≤ q → A q) → va_X sc L xs s s.heap → sc < s.heap.size → ¬ A sc → lv_has ls maxL (lv_args 0 av) → W p l e rm s m av.toArray below meth c s.heap [] 0 0 (MQ below (Qc A) av.toArray s mc ms A) (F0 m 0 ls [])) :
    Met l y ws rm (cPS D cY av sc L xs sz) (Qc (va_A ([] : List va_W).flatten sz)) mc ms (va_A ([] : List va_W).flatten sz) := by
  refine Met.ofW (cc := cc) (maxL := maxL) (ret := ret) hy hw ?_
  intro p e s m args below meth c s₁ B hml hv
  obtain ⟨rfl, hsz, hK, hX, hbl⟩ := hv
  have hts := atoms_spec (ws := ws) B.pre
  have hl := lv_entry av (n := maxL) hlen
  rw [lg_entry_eq]
  exact body p e s m below meth c _ _ B.exec B.bytes B.returns hml hts (findClass_of_methodNamed B.named) B.notSynchronized hsz hK.1.1 hK va_S.rf (fun q h => Or.inr (hsz ▸ h)) hX hbl (nil_A (hsz ▸ hbl)) hl
section MyRows10
variable {p : Program} {l : Launch} {e : Env} {R : Room} {s : State} {m : MethodId} {args : Array Value} {below : List Frame} {meth : Method} {c : Code} {H : Heap} {locs : List Loc} {cells slots : Nat} {Q : State → Prop}
variable {cc : ByteArray} {pc : Nat} {ls : Array Slot} {rest st0 : List Value} {D : va_G} {cY : Nat → ClassId} {A : Nat → Prop} {a : Nat} {BL CL : List va_W} {H0 : Heap}
theorem b_preSc {As : List Value} {sc L : Nat} {xs : Nat → Int32} (hK : vKA D cY s) (hX : va_X sc L xs s s.heap) (hbl : sc < s.heap.size) (hbA : ¬ A sc) (hS : va_S A s.heap H locs) : PreS s H (cPS D cY As sc L xs H.size) As :=
  ⟨cPS_blind, fun U hU hW => ⟨rfl, by rw [hU], hK.warm hW, (va_X.moved hW.alike hX).kept (by rw [hU]; exact hS.2.1 sc hbl hbA), by rw [hU]; exact Nat.lt_of_lt_of_le hbl hS.1⟩⟩
theorem s_ld (hx : p.tables.exec = Jvm.exec) (hb : c.code = cc) {sc L : Nat} {xs : Nat → Int32} (hX : va_X sc L xs s H0) (hbl : sc < H0.size) (hbA : ¬ A sc) (hS : va_S A H0 H locs) {i : Nat} (hin : i < L) (hL : L ≤ 2048) (hdg : decode cc pc = .ok (.iaload, 1))
    (kk : W p l e R s m args below meth c H locs cells slots Q (F0 m (pc + 1) ls (.int (xs i) :: rest))) : W p l e R s m args below meth c H locs cells slots Q (F0 m pc ls (.int (nI i) :: .ref sc :: rest)) :=
  va_sld hx hb hX hbl hbA hS (vp_in_nI hin (by omega)) hdg (by rw [nI_clamp (by omega)]; exact kk)
end MyRows10
set_option maxHeartbeats 4000000 in
set_option maxRecDepth 100000 in
/-- a number below the given one -/
theorem c_L_draw (l : Launch) (D : va_G) (cY : Nat → ClassId) (sz : Nat) (sc L : Nat) (xs : Nat → Int32) (i0 mo : Nat) (hL : L ≤ 260) (hi0 : i0 < 2 ^ 20) (hm0 : 0 < mo) (hm1 : mo < 2 ^ 31) : Met l yL_draw wsL_draw ({ frames := 0, cells := 0, slots := 0, locals := 0 }) (cPS D cY [.ref sc, .int (nI i0), .int (nI mo)] sc L xs sz) (qI (S := Nat) D cY (fun r uu => r = nI uu ∧ uu < mo) (fun _ => ([] : List va_W)) (va_A ([] : List va_W).flatten sz)) 0 0 (va_A ([] : List va_W).flatten sz) := by
  refine mtS (Qc := fun A => qI (S := Nat) D cY (fun r uu => r = nI uu ∧ uu < mo) (fun _ => ([] : List va_W)) A) (cc := cL_draw) (maxL := 4) (ret := some .int) (by decide) rfl (Nat.le_of_ble_eq_true rfl) ?_
  intro p e s m below meth c A ls hx hb hr hml hts hown hlocks hsz hK hVK hS hA hX hbl hbA hl
  have hown : s.vm.findClass RL = some m.cls := hown
  have hl : lv_has ls 4 [(0, .ref sc), (1, .int (nI i0)), (2, .int (nI mo))] := hl
  have L23 : ∀ (v : Int32) (ls : Array Slot), lv_has ls 4 [(0, .ref sc), (1, .int (nI i0)), (2, .int (nI mo))] → W p l e ({ frames := 0, cells := 0, slots := 0, locals := 0 }) s m ([.ref sc, .int (nI i0), .int (nI mo)] : List Value).toArray below meth c s.heap [] 0 0 (MQ below (qI (S := Nat) D cY (fun r uu => r = nI uu ∧ uu < mo) (fun _ => ([] : List va_W)) A) ([.ref sc, .int (nI i0), .int (nI mo)] : List Value).toArray s 0 0 A) (F0 m 23 ls [.int v]) := by
    intro v ls hl
    refine lv_istore_n (lv' := [(3, .int v), (0, .ref sc), (1, .int (nI i0)), (2, .int (nI mo))]) hx hb dL_draw_23 rfl hl (by decide) rfl (fun ls hl => ?_)
    refine lv_iload_n hx hb dL_draw_24 rfl (lv_at hl 0 rfl) ?_
    refine lv_ldc (v := 2147483647) hx hb hown (hts (.constant RL 9 2147483647) (by decide +kernel)) dL_draw_25 ?_
    refine lv_iand hx hb dL_draw_27 ?_
    refine lv_iload_n hx hb dL_draw_28 rfl (lv_at hl 3 rfl) ?_
    refine lv_irem hx hb dL_draw_29 (nI_ne0 hm0 hm1) ?_
    obtain ⟨r0, hr0, er0⟩ := drw (v := v) hm0 hm1
    refine eqi (x' := nI r0) er0 ?_
    exact r_i hx hb hr hlocks nil_P nil_D hS r0 rfl ⟨rfl, hr0⟩ dL_draw_30
  refine lv_iload_n hx hb dL_draw_0 rfl (lv_at hl 1 rfl) ?_
  refine lv_aload_n hx hb dL_draw_1 rfl (lv_at hl 0 rfl) ?_
  refine va_slen hx hb hX hbl hbA hS dL_draw_2 ?_
  refine eqi (x' := nI L) rfl ?_
  refine n_icmp_ge (tgt := 12) hx hb dL_draw_3 (by decide) (by omega) (by omega) (fun h3 => ?_) (fun h3 => ?_)
  · refine lv_ldc (v := 902555601) hx hb hown (hts (.constant RL 7 902555601) (by decide +kernel)) dL_draw_12 ?_
    refine lv_iload_n hx hb dL_draw_14 rfl (lv_at hl 1 rfl) ?_
    refine lv_sipush (v := nI 1051) hx hb dL_draw_15 (by decide) ?_
    refine lv_iadd hx hb dL_draw_18 ?_
    refine lv_imul hx hb dL_draw_19 ?_
    refine lv_ldc (v := 799257049) hx hb hown (hts (.constant RL 8 799257049) (by decide +kernel)) dL_draw_20 ?_
    refine lv_iadd hx hb dL_draw_22 ?_
    exact L23 _ ls hl
  · refine lv_aload_n hx hb dL_draw_6 rfl (lv_at hl 0 rfl) ?_
    refine lv_iload_n hx hb dL_draw_7 rfl (lv_at hl 1 rfl) ?_
    refine s_ld hx hb hX hbl hbA hS h3 (by omega) dL_draw_8 ?_
    refine lv_goto (tgt := 23) hx hb dL_draw_9 (by decide) ?_
    exact L23 _ ls hl
