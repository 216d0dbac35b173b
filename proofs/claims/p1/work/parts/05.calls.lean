section WCalls
variable {p : Program} {l : Launch} {e : Env} {R : Room} {s : State} {m : MethodId} {args : Array Value} {below : List Frame} {meth : Method} {c : Code} {H : Heap} {locs : List Loc} {cells slots : Nat} {Q : State → Prop}
variable {cc : ByteArray} {pc : Nat} {ls : Array Slot} {rest st0 : List Value} {G : gG} {A : Nat → Prop} {H0 : Heap} {L : List Nat} {f : Nat → va_E} {y : MethodName} {bytes : ByteArray} {maxL nL mc ms index : Nat} {ret : Option FieldType} {rm : Room} {own : String} {As : List Value}
/-- what a call of a static method needs of the words -/
theorem w_cS (n : Nat) (hts : ∀ w ∈ uU, w.before args s = true) (h1 : Cond.methodLink own index y ∈ uU) (h2 : Cond.static y ∈ uU) (h3 : Cond.initialized y.cls ∈ uU) (h4 : Cond.code y bytes maxL ret ∈ uU) (hrc : rm.cells = mc) (hrs : rm.slots = ms)
    (hd : y.cls ≠ "java/lang/invoke/MethodHandle" ∧ y.cls ≠ "java/lang/invoke/VarHandle" ∧ (parseMethodDescriptor y.desc).map (fun d => d.parameters.length) = some n) (hR : rm.frames + 1 ≤ R.frames ∧ 8 + (maxL + 11) + rm.locals ≤ R.locals) :
    CallB R s args own index y bytes maxL ret (uW y bytes maxL ret) rm mc ms n ∧ (Cond.static y).before args s = true :=
  va_cwS n hts (uU_call (uU_cons h1 (uU_cons h2 (uU_cons h3 uU_nil))) h4) rfl hrc hrs hd hR
theorem w_cV (n : Nat) (hts : ∀ w ∈ uU, w.before args s = true) (h1 : Cond.methodLink own index y ∈ uU) (h2 : Cond.instanceMethod y ∈ uU) (h3 : Cond.selects y.cls y y ∈ uU) (h5 : Cond.initialized y.cls ∈ uU) (h4 : Cond.code y bytes maxL ret ∈ uU) (hrc : rm.cells = mc) (hrs : rm.slots = ms)
    (hd : y.cls ≠ "java/lang/invoke/MethodHandle" ∧ y.cls ≠ "java/lang/invoke/VarHandle" ∧ (parseMethodDescriptor y.desc).map (fun d => d.parameters.length) = some n) (hR : rm.frames + 1 ≤ R.frames ∧ 8 + (maxL + 11) + rm.locals ≤ R.locals) :
    CallW R s args own y.cls index y bytes maxL ret (uW y bytes maxL ret) rm mc ms n :=
  cwV n hts (uU_call (uU_cons h1 (uU_cons h2 (uU_cons h3 (uU_cons h5 uU_nil)))) h4) rfl hrc hrs ⟨rfl, hd⟩ hR
theorem w_recv {a ci : Nat} {fs : List Value} {q : vw_C} (hw : wH G A H0 s L f H locs) (hL : a ∈ L) (ha : f a = eO ci fs) (hc : vwCl[ci]? = some q) : ∃ cellB : Cell, H[a]? = some cellB ∧ cellB.vm.isStatics = false ∧ s.vm.findClass q.1 = some cellB.cls := by
  obtain ⟨k, hk⟩ := wpl_get (f := f) hL
  rw [ha] at hk
  exact va_recv hw.1 hw.2.1 hc hk
theorem w_callSi {S : Type} {post : Int32 → S → Prop} {lf : S → List Nat × (Nat → va_E)} (S9 : CallFix p m c cc nL s args uU own) (hw : wH G A H0 s L f H locs)
    (hM : Met l y (uW y bytes maxL ret) rm (wIn G As L f H.size) (va_Qi post (fun u => wAt G (wA L f H.size) (lf u).1 (lf u).2) (wA L f H.size)) mc ms (wA L f H.size)) (cw : CallB R s args own index y bytes maxL ret (uW y bytes maxL ret) rm mc ms As.length ∧ (Cond.static y).before args s = true)
    (hsize : ls.size = nL) (hst : st0 = As.reverse ++ rest) (hroom : 2 * (F0 m pc ls st0).monitorRoom + (rest.map fun v => v.category).sum ≤ 8) (hdg : decode cc pc = .ok (.invokestatic index, 3)) (hf : cells + mc ≤ R.cells ∧ slots + ms ≤ R.slots)
    (kk : ∀ (r : Int32) (u : S) (H1 : Heap) (locs1 : List Loc), post r u → wH G A H0 s (lf u).1 (lf u).2 H1 locs1 → W p l e R s m args below meth c H1 locs1 (cells + mc) (slots + ms) Q (F0 m (pc + 3) ls (.int r :: rest))) : W p l e R s m args below meth c H locs cells slots Q (F0 m pc ls st0) := by
  refine va_calli (va_runS (As := As) (rest := rest) S9 hM cw ⟨wBlind, wPre hw _⟩ rfl rfl hsize hst hroom hdg hf) hw.2.2.2.1 (fun q _ h => wA_sub hw q h) (wA_sub hw) (fun r u t H1 locs1 ht hvm hp hB _ _ hS => ?_)
  exact kk r u H1 locs1 hp (w_back hw ht hvm hB hS)
theorem w_callVi {S : Type} {post : Int32 → S → Prop} {lf : S → List Nat × (Nat → va_E)} {b : Nat} (S9 : CallFix p m c cc nL s args uU own) (hw : wH G A H0 s L f H locs)
    (hM : Met l y (uW y bytes maxL ret) rm (wIn G (.ref b :: As) L f H.size) (va_Qi post (fun u => wAt G (wA L f H.size) (lf u).1 (lf u).2) (wA L f H.size)) mc ms (wA L f H.size)) {ci : Nat} {fs : List Value} {q : vw_C} (hbL : b ∈ L) (hba : f b = eO ci fs) (hbc : vwCl[ci]? = some q) (hq : q.1 = y.cls) (cw : CallW R s args own y.cls index y bytes maxL ret (uW y bytes maxL ret) rm mc ms As.length)
    (hsize : ls.size = nL) (hst : st0 = As.reverse ++ .ref b :: rest) (hroom : 2 * (F0 m pc ls st0).monitorRoom + (rest.map fun v => v.category).sum ≤ 8) (hdg : decode cc pc = .ok (.invokevirtual index, 3)) (hf : cells + mc ≤ R.cells ∧ slots + ms ≤ R.slots)
    (kk : ∀ (r : Int32) (u : S) (H1 : Heap) (locs1 : List Loc), post r u → wH G A H0 s (lf u).1 (lf u).2 H1 locs1 → W p l e R s m args below meth c H1 locs1 (cells + mc) (slots + ms) Q (F0 m (pc + 3) ls (.int r :: rest))) : W p l e R s m args below meth c H locs cells slots Q (F0 m pc ls st0) := by
  refine va_calli (va_runV (As := As) (rest := rest) S9 hM cw ⟨wBlind, by have h9 := w_recv hw hbL hba hbc; rw [hq] at h9; exact h9, wPre hw _⟩ rfl rfl hsize hst hroom hdg hf) hw.2.2.2.1 (fun q _ h => wA_sub hw q h) (wA_sub hw) (fun r u t H1 locs1 ht hvm hp hB _ _ hS => ?_)
  exact kk r u H1 locs1 hp (w_back hw ht hvm hB hS)
theorem w_callSl {S : Type} {post : Int64 → S → Prop} {lf : S → List Nat × (Nat → va_E)} (S9 : CallFix p m c cc nL s args uU own) (hw : wH G A H0 s L f H locs)
    (hM : Met l y (uW y bytes maxL ret) rm (wIn G As L f H.size) (va_Ql post (fun u => wAt G (wA L f H.size) (lf u).1 (lf u).2) (wA L f H.size)) mc ms (wA L f H.size)) (cw : CallB R s args own index y bytes maxL ret (uW y bytes maxL ret) rm mc ms As.length ∧ (Cond.static y).before args s = true)
    (hsize : ls.size = nL) (hst : st0 = As.reverse ++ rest) (hroom : 2 * (F0 m pc ls st0).monitorRoom + (rest.map fun v => v.category).sum ≤ 8) (hdg : decode cc pc = .ok (.invokestatic index, 3)) (hf : cells + mc ≤ R.cells ∧ slots + ms ≤ R.slots)
    (kk : ∀ (r : Int64) (u : S) (H1 : Heap) (locs1 : List Loc), post r u → wH G A H0 s (lf u).1 (lf u).2 H1 locs1 → W p l e R s m args below meth c H1 locs1 (cells + mc) (slots + ms) Q (F0 m (pc + 3) ls (.long r :: rest))) : W p l e R s m args below meth c H locs cells slots Q (F0 m pc ls st0) := by
  refine va_calll (va_runS (As := As) (rest := rest) S9 hM cw ⟨wBlind, wPre hw _⟩ rfl rfl hsize hst hroom hdg hf) hw.2.2.2.1 (fun q _ h => wA_sub hw q h) (wA_sub hw) (fun r u t H1 locs1 ht hvm hp hB _ _ hS => ?_)
  exact kk r u H1 locs1 hp (w_back hw ht hvm hB hS)
theorem w_callVl {S : Type} {post : Int64 → S → Prop} {lf : S → List Nat × (Nat → va_E)} {b : Nat} (S9 : CallFix p m c cc nL s args uU own) (hw : wH G A H0 s L f H locs)
    (hM : Met l y (uW y bytes maxL ret) rm (wIn G (.ref b :: As) L f H.size) (va_Ql post (fun u => wAt G (wA L f H.size) (lf u).1 (lf u).2) (wA L f H.size)) mc ms (wA L f H.size)) {ci : Nat} {fs : List Value} {q : vw_C} (hbL : b ∈ L) (hba : f b = eO ci fs) (hbc : vwCl[ci]? = some q) (hq : q.1 = y.cls) (cw : CallW R s args own y.cls index y bytes maxL ret (uW y bytes maxL ret) rm mc ms As.length)
    (hsize : ls.size = nL) (hst : st0 = As.reverse ++ .ref b :: rest) (hroom : 2 * (F0 m pc ls st0).monitorRoom + (rest.map fun v => v.category).sum ≤ 8) (hdg : decode cc pc = .ok (.invokevirtual index, 3)) (hf : cells + mc ≤ R.cells ∧ slots + ms ≤ R.slots)
    (kk : ∀ (r : Int64) (u : S) (H1 : Heap) (locs1 : List Loc), post r u → wH G A H0 s (lf u).1 (lf u).2 H1 locs1 → W p l e R s m args below meth c H1 locs1 (cells + mc) (slots + ms) Q (F0 m (pc + 3) ls (.long r :: rest))) : W p l e R s m args below meth c H locs cells slots Q (F0 m pc ls st0) := by
  refine va_calll (va_runV (As := As) (rest := rest) S9 hM cw ⟨wBlind, by have h9 := w_recv hw hbL hba hbc; rw [hq] at h9; exact h9, wPre hw _⟩ rfl rfl hsize hst hroom hdg hf) hw.2.2.2.1 (fun q _ h => wA_sub hw q h) (wA_sub hw) (fun r u t H1 locs1 ht hvm hp hB _ _ hS => ?_)
  exact kk r u H1 locs1 hp (w_back hw ht hvm hB hS)
theorem w_callSv {S : Type} {post : S → Prop} {lf : S → List Nat × (Nat → va_E)} (S9 : CallFix p m c cc nL s args uU own) (hw : wH G A H0 s L f H locs)
    (hM : Met l y (uW y bytes maxL ret) rm (wIn G As L f H.size) (va_Qv post (fun u => wAt G (wA L f H.size) (lf u).1 (lf u).2) (wA L f H.size)) mc ms (wA L f H.size)) (cw : CallB R s args own index y bytes maxL ret (uW y bytes maxL ret) rm mc ms As.length ∧ (Cond.static y).before args s = true)
    (hsize : ls.size = nL) (hst : st0 = As.reverse ++ rest) (hroom : 2 * (F0 m pc ls st0).monitorRoom + (rest.map fun v => v.category).sum ≤ 8) (hdg : decode cc pc = .ok (.invokestatic index, 3)) (hf : cells + mc ≤ R.cells ∧ slots + ms ≤ R.slots)
    (kk : ∀ (u : S) (H1 : Heap) (locs1 : List Loc), post u → wH G A H0 s (lf u).1 (lf u).2 H1 locs1 → W p l e R s m args below meth c H1 locs1 (cells + mc) (slots + ms) Q (F0 m (pc + 3) ls (rest))) : W p l e R s m args below meth c H locs cells slots Q (F0 m pc ls st0) := by
  refine va_callv (va_runS (As := As) (rest := rest) S9 hM cw ⟨wBlind, wPre hw _⟩ rfl rfl hsize hst hroom hdg hf) hw.2.2.2.1 (fun q _ h => wA_sub hw q h) (wA_sub hw) (fun u t H1 locs1 ht hvm hp hB _ _ hS => ?_)
  exact kk u H1 locs1 hp (w_back hw ht hvm hB hS)
theorem w_callVv {S : Type} {post : S → Prop} {lf : S → List Nat × (Nat → va_E)} {b : Nat} (S9 : CallFix p m c cc nL s args uU own) (hw : wH G A H0 s L f H locs)
    (hM : Met l y (uW y bytes maxL ret) rm (wIn G (.ref b :: As) L f H.size) (va_Qv post (fun u => wAt G (wA L f H.size) (lf u).1 (lf u).2) (wA L f H.size)) mc ms (wA L f H.size)) {ci : Nat} {fs : List Value} {q : vw_C} (hbL : b ∈ L) (hba : f b = eO ci fs) (hbc : vwCl[ci]? = some q) (hq : q.1 = y.cls) (cw : CallW R s args own y.cls index y bytes maxL ret (uW y bytes maxL ret) rm mc ms As.length)
    (hsize : ls.size = nL) (hst : st0 = As.reverse ++ .ref b :: rest) (hroom : 2 * (F0 m pc ls st0).monitorRoom + (rest.map fun v => v.category).sum ≤ 8) (hdg : decode cc pc = .ok (.invokevirtual index, 3)) (hf : cells + mc ≤ R.cells ∧ slots + ms ≤ R.slots)
    (kk : ∀ (u : S) (H1 : Heap) (locs1 : List Loc), post u → wH G A H0 s (lf u).1 (lf u).2 H1 locs1 → W p l e R s m args below meth c H1 locs1 (cells + mc) (slots + ms) Q (F0 m (pc + 3) ls (rest))) : W p l e R s m args below meth c H locs cells slots Q (F0 m pc ls st0) := by
  refine va_callv (va_runV (As := As) (rest := rest) S9 hM cw ⟨wBlind, by have h9 := w_recv hw hbL hba hbc; rw [hq] at h9; exact h9, wPre hw _⟩ rfl rfl hsize hst hroom hdg hf) hw.2.2.2.1 (fun q _ h => wA_sub hw q h) (wA_sub hw) (fun u t H1 locs1 ht hvm hp hB _ _ hS => ?_)
  exact kk u H1 locs1 hp (w_back hw ht hvm hB hS)
end WCalls
