theorem cZ.keep {G : gG} {L L' : List Nat} {f f' : Nat → va_E} {x : Nat} {own : Nat → Prop} (h : cZ G L f x own) (hL : ∀ q ∈ L, q ∈ L') (hf : ∀ q ∈ L, f' q = f q) : cZ G L' f' x own := by
  obtain ⟨fs, fs6, fs3, co, b1, b2, b3, b4, o3, o6, cr0, cr, r1, r2, r3, r4, hxL, hxo, hfl, hfs0, hfs1, hfs4, hfs5, hfs6, hfs7, hfs8, hfs11, hfs14, hcoL, hco, hcr, hcrL, hcv, h1L, hb1, h2L, hb2, h3L, hb3, h4L, hb4, n12, n13, n23, ho3L, ho3, ho6L, ho6, hfl6, ow⟩ := h
  exact ⟨fs, fs6, fs3, co, b1, b2, b3, b4, o3, o6, cr0, cr, r1, r2, r3, r4, hL _ hxL, (hf _ hxL).trans hxo, hfl, hfs0, hfs1, hfs4, hfs5, hfs6, hfs7, hfs8, hfs11, hfs14, hL _ hcoL, (hf _ hcoL).trans hco, hcr, fun j hj => hL _ (hcrL j hj), fun j hj => (hf _ (hcrL j hj)).trans (hcv j hj), hL _ h1L, (hf _ h1L).trans hb1, hL _ h2L, (hf _ h2L).trans hb2, hL _ h3L, (hf _ h3L).trans hb3, hL _ h4L, (hf _ h4L).trans hb4, n12, n13, n23, hL _ ho3L, (hf _ ho3L).trans ho3, hL _ ho6L, (hf _ ho6L).trans ho6, hfl6, ow⟩
theorem cZ.mem {G : gG} {L : List Nat} {f : Nat → va_E} {x : Nat} {own : Nat → Prop} (h : cZ G L f x own) : x ∈ L := by
  obtain ⟨fs, fs6, fs3, co, b1, b2, b3, b4, o3, o6, cr0, cr, r1, r2, r3, r4, hxL, -⟩ := h
  exact hxL
theorem mZ.keep {G : gG} {L L' : List Nat} {f f' : Nat → va_E} {x ww dd ca : Nat} (h : mZ G L f x ww dd ca) (hL : ∀ q ∈ L, q ∈ L') (h0 : f' x = f x) (h1 : f' ww = f ww) (h2 : f' dd = f dd) (h3 : f' ca = f ca) : mZ G L' f' x ww dd ca := by
  obtain ⟨fs, wr, dr, hxL, hxo, a1, a2, a3, a4, a5, a6, a7, hwL, hww, hdL, hdd, hcL, hca, n⟩ := h
  exact ⟨fs, wr, dr, hL _ hxL, h0.trans hxo, a1, a2, a3, a4, a5, a6, a7, hL _ hwL, h1.trans hww, hL _ hdL, h2.trans hdd, hL _ hcL, h3.trans hca, n⟩
theorem mZ.mems {G : gG} {L : List Nat} {f : Nat → va_E} {x ww dd ca : Nat} (h : mZ G L f x ww dd ca) : x ∈ L ∧ ww ∈ L ∧ dd ∈ L ∧ ca ∈ L ∧ ∃ fs, f x = eO 8 fs := by
  obtain ⟨fs, wr, dr, hxL, hxo, -, -, -, -, -, -, -, hwL, -, hdL, -, hcL, -⟩ := h
  exact ⟨hxL, hwL, hdL, hcL, fs, hxo⟩
section HCalls
variable {p : Program} {l : Launch} {e : Env} {R : Room} {s : State} {m : MethodId} {args : Array Value} {below : List Frame} {meth : Method} {c : Code} {H : Heap} {locs : List Loc} {cells slots : Nat} {Q : State → Prop}
variable {cc : ByteArray} {pc : Nat} {ls : Array Slot} {rest st0 : List Value} {G : gG} {A : Nat → Prop} {L : List Nat} {f : Nat → va_E} {y : MethodName} {bytes : ByteArray} {maxL nL mc ms index : Nat} {ret : Option FieldType} {rm : Room} {own : String} {As : List Value} {hh : List (Nat × Nat × Nat × Nat)}
theorem h_cS (n : Nat) (hts : ∀ w ∈ uU, w.before args s = true) (h1 : Cond.methodLink own index y ∈ uU) (h2 : Cond.static y ∈ uU) (h3 : Cond.initialized y.cls ∈ uU) (h4 : Cond.codeWith y bytes maxL ret hh ∈ uU) (hrc : rm.cells = mc) (hrs : rm.slots = ms)
    (hd : y.cls ≠ "java/lang/invoke/MethodHandle" ∧ y.cls ≠ "java/lang/invoke/VarHandle" ∧ (parseMethodDescriptor y.desc).map (fun d => d.parameters.length) = some n) (hR : rm.frames + 1 ≤ R.frames ∧ 8 + (maxL + 11) + rm.locals ≤ R.locals) :
    vx_CSW R s args own index y bytes maxL ret hh (uWH y bytes maxL ret hh) rm mc ms n :=
  vx_cwSW n hts (uU_call (uU_cons h1 (uU_cons h2 (uU_cons h3 uU_nil))) h4) rfl hrc hrs hd hR
theorem h_callSi {post : Int32 → (Nat → va_E) → Prop} (S9 : CallFix p m c cc nL s args uU own) (hX : tX A s s.heap) (hw : wH G A s.heap s L f H locs)
    (hM : Met l y (uWH y bytes maxL ret hh) rm (wInX G As L f H.size) (va_Qi post (fun g => wAt G (wA L f H.size) L g) (wA L f H.size)) mc ms (wA L f H.size)) (cw : vx_CSW R s args own index y bytes maxL ret hh (uWH y bytes maxL ret hh) rm mc ms As.length)
    (hsize : ls.size = nL) (hst : st0 = As.reverse ++ rest) (hroom : 2 * (F0 m pc ls st0).monitorRoom + (rest.map fun v => v.category).sum ≤ 8) (hdg : decode cc pc = .ok (.invokestatic index, 3)) (hf : cells + mc ≤ R.cells ∧ slots + ms ≤ R.slots)
    (kk : ∀ (r : Int32) (u : Nat → va_E) (H1 : Heap) (locs1 : List Loc), post r u → wH G A s.heap s L u H1 locs1 → W p l e R s m args below meth c H1 locs1 (cells + mc) (slots + ms) Q (F0 m (pc + 3) ls (.int r :: rest))) : W p l e R s m args below meth c H locs cells slots Q (F0 m pc ls st0) := by
  refine va_calli (vx_runSW (As := As) (rest := rest) S9 hM cw ⟨xBlind, xPre hX hw _⟩ rfl rfl hsize hst hroom hdg hf) hw.2.2.2.1 (fun q _ h => wA_sub hw q h) (wA_sub hw) (fun r u t H1 locs1 ht hvm hp hB _ _ hS => ?_)
  exact kk r u H1 locs1 hp (w_back hw ht hvm hB hS)
end HCalls
