/-! ===== rows for the law's own methods ===== -/
section MyRows9
variable {p : Program} {l : Launch} {e : Env} {R : Room} {s : State} {m : MethodId} {args : Array Value} {below : List Frame} {meth : Method} {c : Code} {H : Heap} {locs : List Loc} {cells slots : Nat} {Q : State → Prop}
variable {cc : ByteArray} {pc : Nat} {ls : Array Slot} {rest st0 : List Value} {D : va_G} {cY : Nat → ClassId} {A : Nat → Prop} {a : Nat} {BL CL : List va_W} {H0 : Heap}
theorem eqf {x x' : UInt32} (h : x = x') (k : W p l e R s m args below meth c H locs cells slots Q (F0 m pc ls (.float x' :: rest))) : W p l e R s m args below meth c H locs cells slots Q (F0 m pc ls (.float x :: rest)) := by subst h; exact k
end MyRows9
