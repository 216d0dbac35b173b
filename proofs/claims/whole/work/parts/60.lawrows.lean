section HCalls
variable {p : Program} {l : Launch} {e : Env} {R : Room} {s : State} {m : MethodId} {args : Array Value} {below : List Frame} {meth : Method} {c : Code} {H : Heap} {locs : List Loc} {cells slots : Nat} {Q : State → Prop}
variable {cc : ByteArray} {pc : Nat} {ls : Array Slot} {rest st0 : List Value} {G : gG} {A : Nat → Prop} {L : List Nat} {f : Nat → va_E} {y : MethodName} {bytes : ByteArray} {maxL nL mc ms index : Nat} {ret : Option FieldType} {rm : Room} {own : String} {As : List Value} {hh : List (Nat × Nat × Nat × Nat)}
theorem h_cS (n : Nat) (hts : ∀ w ∈ uU, w.before args s = true) (h1 : Cond.methodLink own index y ∈ uU) (h2 : Cond.static y ∈ uU) (h3 : Cond.initialized y.cls ∈ uU) (h4 : Cond.codeWith y bytes maxL ret hh ∈ uU) (hrc : rm.cells = mc) (hrs : rm.slots = ms)
    (hd : y.cls ≠ "java/lang/invoke/MethodHandle" ∧ y.cls ≠ "java/lang/invoke/VarHandle" ∧ (parseMethodDescriptor y.desc).map (fun d => d.parameters.length) = some n) (hR : rm.frames + 1 ≤ R.frames ∧ 8 + (maxL + 11) + rm.locals ≤ R.locals) :
    vx_CSW R s args own index y bytes maxL ret hh (uWH y bytes maxL ret hh) rm mc ms n :=
  vx_cwSW n hts (uU_call (uU_cons h1 (uU_cons h2 (uU_cons h3 uU_nil))) h4) rfl hrc hrs hd hR
end HCalls
