/-- the texts of the class's throws, by their entries -/
def tXs : List (Nat × String) := [(111, "no such coefficient"), (124, "the product is too great"), (137, "nothing is divided by 0"), (153, "too few numbers are left"), (185, "no such root"), (187, "no such part"), (199, "no prime from 2 to 97"), (219, "no such modulus"), (232, "no such polynomial"), (235, "no such power"), (237, "no such factor"), (239, "no number is left")]
abbrev nAI : String := "java/lang/ArrayIndexOutOfBoundsException"
abbrev nIS : String := "java/lang/IllegalStateException"
abbrev nIA : String := "java/lang/IllegalArgumentException"
abbrev nAR : String := "java/lang/ArithmeticException"
/-- words on the tables that a call may not pass on by the list uU -/
def tXw : List Cond := [.castable nAI nAI, .castable nIS nIS, .castable nIA nIA, .castable nAR nAR, .declares (Bundle.initS "java/lang/IndexOutOfBoundsException"), .declares (Bundle.initS "java/lang/RuntimeException"), .declares (Bundle.initS "java/lang/Exception"), .declares (Bundle.initS "java/lang/Throwable")]
def tXn : List (String × String) := [(nIS, nAI), (nIA, nAI), (nIA, nIS), (nAR, nAI), (nAR, nIS)]
/-- what a throw needs of the heap: two static fields of Throwable, outside of what may change, and the texts -/
def tX (A : Nat → Prop) (U : State) (H : Heap) : Prop := vx_Zq Bundle.tN "UNASSIGNED_STACK" Bundle.steD A U H ∧ vx_Zq Bundle.tN "SUPPRESSED_SENTINEL" Bundle.listD A U H ∧ (∀ q ∈ tXs, ∃ sa : Nat, vk_R RX7 q.1 q.2 sa U) ∧ (∀ w ∈ tXw, va_Nw w U) ∧ ∀ q ∈ tXn, va_Nc q.1 q.2 U
theorem tXw_on : ∀ w ∈ tXw, w.onTables = true := by decide +kernel
theorem tXw_warm {s U : State} (hW : s.WarmedH U.vm) : ∀ w ∈ tXw, va_Nw w s → va_Nw w U := by
  intro w hw h
  simp only [tXw, List.mem_cons, List.not_mem_nil, or_false] at hw
  rcases hw with rfl | rfl | rfl | rfl | rfl | rfl | rfl | rfl
  · exact va_Nw.warmC hW h
  · exact va_Nw.warmC hW h
  · exact va_Nw.warmC hW h
  · exact va_Nw.warmC hW h
  · exact va_Nw.warmD hW h
  · exact va_Nw.warmD hW h
  · exact va_Nw.warmD hW h
  · exact va_Nw.warmD hW h
theorem tXn_moved {s U : State} (hvm : s.vm.Alike U.vm) {C T : String} (h : va_Nc C T s) : va_Nc C T U := by
  obtain ⟨a, b, h1, h2, h3⟩ := h
  exact ⟨a, b, by rw [hvm.findClass]; exact h1, by rw [hvm.findClass]; exact h2, by rw [hvm.assignable]; exact h3⟩
def wInX (G : gG) (av : List Value) (L : List Nat) (f : Nat → va_E) (sz : Nat) : Array Value → State → Prop :=
  va_Pc av (fun U => U.heap.size = sz ∧ va_P G.1 vwCl (va_pl L f) U.heap ∧ va_K G.1 vwCl (wty G) U ∧ va_D (fun _ => True) (va_pl L f) ∧ tX (wA L f sz) U U.heap)
/-- an end by a throw: pe says which class, and what the world is then -/
def xX (G : gG) (A : Nat → Prop) (L : List Nat) (pe : String → (Nat → va_E) → Prop) : String → State → State → Prop := vx_X (fun _ : Nat → va_E => True) (fun E g t => pe E g ∧ wAt G A L g t) A
theorem tX.at {G : gG} {A : Nat → Prop} {s : State} {L : List Nat} {f : Nat → va_E} {H : Heap} {locs : List Loc} (h : tX A s s.heap) (hw : wH G A s.heap s L f H locs) {U : State} (hU : U.heap = H) (hW : s.WarmedH U.vm) : tX (wA L f H.size) U U.heap := by
  obtain ⟨h1, h2, h3, h4, h5⟩ := h
  have hS := hw.2.2.2.1
  refine ⟨?_, ?_, fun q hq => ?_, fun w hq => tXw_warm hW w hq (h4 w hq), fun q hq => tXn_moved hW.alike (h5 q hq)⟩
  · rw [hU]; exact ((h1.kept hS.2.1).narrow (wA_sub hw)).moved hW.alike
  · rw [hU]; exact ((h2.kept hS.2.1).narrow (wA_sub hw)).moved hW.alike
  · obtain ⟨sa, ha⟩ := h3 q hq
    exact ⟨sa, vk_R.warm hW ha⟩
theorem xBlind {G : gG} {av : List Value} {L : List Nat} {f : Nat → va_E} {sz : Nat} : FrameBlind (wInX G av L f sz) := fun a U g mk q => by
  obtain ⟨q0, q1, qP, qK, qD, qt1, qt2, qt3, qt4, qt5⟩ := q
  refine ⟨q0, q1, qP, va_K.moved (u := U) (U := U.calling g mk a) (Vm.Alike.refl U.vm) qK, qD, ?_, ?_, fun q hq => ?_, fun w hq => va_Nw.same (u := U) (U := U.calling g mk a) (tXw_on w hq) rfl (qt4 w hq), fun q hq => tXn_moved (s := U) (U := U.calling g mk a) (Vm.Alike.refl U.vm) (qt5 q hq)⟩
  · exact vx_Zq.moved (u := U) (U := U.calling g mk a) (Vm.Alike.refl U.vm) qt1
  · exact vx_Zq.moved (u := U) (U := U.calling g mk a) (Vm.Alike.refl U.vm) qt2
  · obtain ⟨sa, ha⟩ := qt3 q hq
    exact ⟨sa, vk_R.same rfl ha⟩
theorem xPre {G : gG} {A : Nat → Prop} {s : State} {L : List Nat} {f : Nat → va_E} {H : Heap} {locs : List Loc} (hX : tX A s s.heap) (hw : wH G A s.heap s L f H locs) (av : List Value) : ∀ U : State, U.heap = H → s.WarmedH U.vm → wInX G av L f H.size av.toArray U := by
  intro U hU hW
  obtain ⟨-, q1, q2, q3, q4⟩ := wPre hw av U hU hW
  exact ⟨rfl, q1, q2, q3, q4, hX.at hw hU hW⟩
set_option maxHeartbeats 1000000 in
theorem wEnterX {l : Launch} {y : MethodName} {rm : Room} {G : gG} {av : List Value} {L : List Nat} {f : Nat → va_E} {sz : Nat} {Qc : Array Value → State → Outcome → State → Prop} {XC : String → State → State → Prop} {mc ms : Nat} {cc : ByteArray} {n : Nat} {ret : Option FieldType}
    (hy : plainName y.cls = true) (hn : (lg_sl av).length ≤ n)
    (body : ∀ (p : Program) (e : Env) (s : State) (m : MethodId) (below : List Frame) (meth : Method) (c : Code) (ls : Array Slot), cX p s m av.toArray meth c cc ret n y.cls → (∀ x ∈ c.exceptionTable.toList, False) → lv_has ls n (lv_args 0 av) → s.heap.size = sz → wH G (wA L f sz) s.heap s L f s.heap [] → tX (wA L f sz) s s.heap →
      W p l e rm s m av.toArray below meth c s.heap [] 0 0 (vx_MQ below Qc XC av.toArray s mc ms (wA L f sz)) (F0 m 0 ls [])) :
    vx_Met l y (uW y cc n ret) rm (wInX G av L f sz) Qc XC mc ms (wA L f sz) := by
  refine vx_ofW (cc := cc) (maxL := n) (ret := ret) hy rfl ?_
  intro p e s m args below meth c s₁ B hml hnt hv
  obtain ⟨rfl, hsz, hP, hK, hD0, hX⟩ := hv
  have hts := atoms_spec (ws := uW y cc n ret) B.pre
  have hown : s.vm.findClass y.cls = some m.cls := findClass_of_methodNamed B.named
  have hl := lv_entry av (n := n) hn
  rw [lg_entry_eq]
  exact body p e s m below meth c _ ⟨B.exec, B.bytes, B.returns, hml, hown, fun w h => hts w (List.mem_cons_of_mem _ h), B.notSynchronized⟩ hnt hl hsz ⟨hK, hP, hD0.self, va_S.rf, fun q h => Or.inr (by rw [← hsz]; exact h)⟩ hX
section XRows
variable {p : Program} {l : Launch} {e : Env} {R : Room} {s : State} {m : MethodId} {args : Array Value} {below : List Frame} {meth : Method} {c : Code} {H : Heap} {locs : List Loc} {cells slots : Nat} {Q : State → Prop}
variable {cc : ByteArray} {pc : Nat} {ls : Array Slot} {rest st0 : List Value} {G : gG} {A : Nat → Prop} {L : List Nat} {f : Nat → va_E} {Qc : Array Value → State → Outcome → State → Prop} {mc ms : Nat} {pe : String → (Nat → va_E) → Prop}
theorem w_later {t : State} (hw : wH G A s.heap s L f H locs) (hvm : s.vm.Alike t.vm) (hz : H.size ≤ t.heap.size) (hk : ∀ q : Nat, q < H.size → t.heap[q]? = H[q]?) : wAt G A L f t ∧ va_F A s t := by
  obtain ⟨hK, hP, hD, hS, -⟩ := hw
  exact ⟨⟨hP.kept (fun k q h => hk q.1 ((hP k q h).lt)), va_K.moved hvm hK, hD⟩, Nat.le_trans hS.1 hz, fun q h1 h2 => (hk q (Nat.lt_of_lt_of_le h1 hS.1)).trans (hS.2.1 q h1 h2)⟩
/-- 'throw new E("text")' of the class LiftFactors -/
theorem w_throwS (hx : p.tables.exec = Jvm.exec) (hb : c.code = cc) (hl : l.stackTraces = false) {cls text : String} {names : List String} {ik is ic : Nat} (hown : s.vm.findClass RX7 = some m.cls) (hts : ∀ w ∈ uU, w.before args s = true) (hcls : Bundle.fit cls = true) (hnames : ∀ n ∈ names, Bundle.fit n = true)
    (hk : Cond.classLink RX7 ik cls ∈ uU) (hini : Cond.initialized cls ∈ uU) (htx : (is, text) ∈ tXs) (hat : ∀ w ∈ (vx_atS RX7 ic cls names).filter goodWord, w ∈ uU) (hat2 : ∀ w ∈ (vx_atS RX7 ic cls names).filter (fun w => !goodWord w), w ∈ tXw) (hgood : ∀ w ∈ Cond.classLink RX7 ik cls :: Cond.initialized cls :: vx_atS RX7 ic cls names, vx_ot w = true)
    (hX : tX A s s.heap) (hw : wH G A s.heap s L f H locs) (hsize : ls.size = c.maxLocals)
    (d0 : decode cc pc = .ok (.new ik, 3)) (d3 : decode cc (pc + 3) = .ok (.dup, 1)) (d4 : decode cc (pc + 4) = .ok (.ldc is, 2)) (d6 : decode cc (pc + 6) = .ok (.invokespecial ic, 3)) (d9 : decode cc (pc + 9) = .ok (.athrow, 1))
    (hnt : ∀ x ∈ c.exceptionTable.toList, False) (hRf : names.length + 3 < R.frames) (hRl : (rest.map fun v => v.category).sum + (13 * (names.length + 1) + 43) ≤ R.locals) (hRc : cells + 1 ≤ R.cells) (hRs : slots + 6 ≤ R.slots) (hlocks : meth.locks = false) (hpe : pe cls f) (hc : cells + 1 ≤ mc) (hs : slots + 6 ≤ ms) :
    W p l e R s m args below meth c H locs cells slots (vx_MQ below Qc (xX G A L pe) args s mc ms A) (F0 m pc ls rest) := by
  obtain ⟨sa, hsa⟩ := hX.2.2.1 _ htx
  exact vx_throwS hx hb hl hown hcls hnames (hts _ hk) (hts _ hini) hsa (vx_hat (fun w h => hts w (hat w h)) hat2 (fun w h => va_Nw.use (tXw_on w h) (hX.2.2.2.1 w h))) hgood hX.1 hX.2.1 hw.2.2.2.1 hsize d0 d3 d4 d6 d9 (fun x h => (hnt x h).elim) hRf hRl hRc hRs hlocks
    (fun t hvm hz hk => ⟨f, trivial, ⟨hpe, (w_later hw hvm hz hk).1⟩, (w_later hw hvm hz hk).2⟩) hw.2.2.2.1.2.2 hc hs
end XRows
section XCalls
variable {p : Program} {l : Launch} {e : Env} {R : Room} {s : State} {m : MethodId} {args : Array Value} {below : List Frame} {meth : Method} {c : Code} {H : Heap} {locs : List Loc} {cells slots : Nat} {Q : State → Prop}
variable {cc : ByteArray} {pc : Nat} {ls : Array Slot} {rest st0 : List Value} {G : gG} {A : Nat → Prop} {L : List Nat} {f : Nat → va_E} {y : MethodName} {bytes : ByteArray} {maxL nL mc ms index : Nat} {ret : Option FieldType} {rm : Room} {own : String} {As : List Value} {pe : String → (Nat → va_E) → Prop}
/-- a call that may throw: behind it, and where it threw q9 -/
theorem x_callSi {post : Int32 → (Nat → va_E) → Prop} (S9 : CallFix p m c cc nL s args uU own) (hX : tX A s s.heap) (hw : wH G A s.heap s L f H locs)
    (hM : vx_Met l y (uW y bytes maxL ret) rm (wInX G As L f H.size) (va_Qi post (fun g => wAt G (wA L f H.size) L g) (wA L f H.size)) (xX G (wA L f H.size) L pe) mc ms (wA L f H.size)) (cw : CallB R s args own index y bytes maxL ret (uW y bytes maxL ret) rm mc ms As.length ∧ (Cond.static y).before args s = true)
    (hsize : ls.size = nL) (hst : st0 = As.reverse ++ rest) (hroom : 2 * (F0 m pc ls st0).monitorRoom + (rest.map fun v => v.category).sum ≤ 8) (hdg : decode cc pc = .ok (.invokestatic index, 3)) (hf : cells + mc ≤ R.cells ∧ slots + ms ≤ R.slots)
    (kx : ∀ (E : String) (ce : Cell) (q9 : Addr) (u : Nat → va_E) (H1 : Heap) (locs1 : List Loc), pe E u → wH G A s.heap s L u H1 locs1 → H1[q9]? = some ce → ce.vm = .none → s.vm.findClass E = some ce.cls → vx_W p l e R s m args below meth c H1 locs1 (cells + mc) (slots + ms) Q (F0 m pc ls rest) q9)
    (kk : ∀ (r : Int32) (u : Nat → va_E) (H1 : Heap) (locs1 : List Loc), post r u → wH G A s.heap s L u H1 locs1 → W p l e R s m args below meth c H1 locs1 (cells + mc) (slots + ms) Q (F0 m (pc + 3) ls (.int r :: rest))) : W p l e R s m args below meth c H locs cells slots Q (F0 m pc ls st0) := by
  refine vx_calli (vx_runS (As := As) (rest := rest) S9 hM cw ⟨xBlind, xPre hX hw _⟩ rfl rfl hsize hst hroom hdg hf) hw.2.2.2.1 (fun q _ h => wA_sub hw q h) (wA_sub hw) (fun q _ h => wA_sub hw q h) (fun E ce q9 u t H1 locs1 ht hvm _ hB _ _ hS hce hcv hcl => ?_) (fun r u t H1 locs1 ht hvm hp hB _ _ hS => ?_)
  · exact kx E ce q9 u H1 locs1 hB.1 (w_back hw ht hvm hB.2 hS) hce hcv hcl
  · exact kk r u H1 locs1 hp (w_back hw ht hvm hB hS)
/-- a call that may throw: behind it, and where it threw q9 -/
theorem x_callVi {post : Int32 → (Nat → va_E) → Prop} {b : Nat} (S9 : CallFix p m c cc nL s args uU own) (hX : tX A s s.heap) (hw : wH G A s.heap s L f H locs)
    (hM : vx_Met l y (uW y bytes maxL ret) rm (wInX G (.ref b :: As) L f H.size) (va_Qi post (fun g => wAt G (wA L f H.size) L g) (wA L f H.size)) (xX G (wA L f H.size) L pe) mc ms (wA L f H.size)) {ci : Nat} {fs : List Value} {q : vw_C} (hbL : b ∈ L) (hba : f b = eO ci fs) (hbc : vwCl[ci]? = some q) (hq : q.1 = y.cls) (cw : CallW R s args own y.cls index y bytes maxL ret (uW y bytes maxL ret) rm mc ms As.length)
    (hsize : ls.size = nL) (hst : st0 = As.reverse ++ .ref b :: rest) (hroom : 2 * (F0 m pc ls st0).monitorRoom + (rest.map fun v => v.category).sum ≤ 8) (hdg : decode cc pc = .ok (.invokevirtual index, 3)) (hf : cells + mc ≤ R.cells ∧ slots + ms ≤ R.slots)
    (kx : ∀ (E : String) (ce : Cell) (q9 : Addr) (u : Nat → va_E) (H1 : Heap) (locs1 : List Loc), pe E u → wH G A s.heap s L u H1 locs1 → H1[q9]? = some ce → ce.vm = .none → s.vm.findClass E = some ce.cls → vx_W p l e R s m args below meth c H1 locs1 (cells + mc) (slots + ms) Q (F0 m pc ls rest) q9)
    (kk : ∀ (r : Int32) (u : Nat → va_E) (H1 : Heap) (locs1 : List Loc), post r u → wH G A s.heap s L u H1 locs1 → W p l e R s m args below meth c H1 locs1 (cells + mc) (slots + ms) Q (F0 m (pc + 3) ls (.int r :: rest))) : W p l e R s m args below meth c H locs cells slots Q (F0 m pc ls st0) := by
  refine vx_calli (vx_runV (As := As) (rest := rest) S9 hM cw ⟨xBlind, by have h9 := w_recv hw hbL hba hbc; rw [hq] at h9; exact h9, xPre hX hw _⟩ rfl rfl hsize hst hroom hdg hf) hw.2.2.2.1 (fun q _ h => wA_sub hw q h) (wA_sub hw) (fun q _ h => wA_sub hw q h) (fun E ce q9 u t H1 locs1 ht hvm _ hB _ _ hS hce hcv hcl => ?_) (fun r u t H1 locs1 ht hvm hp hB _ _ hS => ?_)
  · exact kx E ce q9 u H1 locs1 hB.1 (w_back hw ht hvm hB.2 hS) hce hcv hcl
  · exact kk r u H1 locs1 hp (w_back hw ht hvm hB hS)
/-- a call that may throw: behind it, and where it threw q9 -/
theorem x_callSl {post : Int64 → (Nat → va_E) → Prop} (S9 : CallFix p m c cc nL s args uU own) (hX : tX A s s.heap) (hw : wH G A s.heap s L f H locs)
    (hM : vx_Met l y (uW y bytes maxL ret) rm (wInX G As L f H.size) (va_Ql post (fun g => wAt G (wA L f H.size) L g) (wA L f H.size)) (xX G (wA L f H.size) L pe) mc ms (wA L f H.size)) (cw : CallB R s args own index y bytes maxL ret (uW y bytes maxL ret) rm mc ms As.length ∧ (Cond.static y).before args s = true)
    (hsize : ls.size = nL) (hst : st0 = As.reverse ++ rest) (hroom : 2 * (F0 m pc ls st0).monitorRoom + (rest.map fun v => v.category).sum ≤ 8) (hdg : decode cc pc = .ok (.invokestatic index, 3)) (hf : cells + mc ≤ R.cells ∧ slots + ms ≤ R.slots)
    (kx : ∀ (E : String) (ce : Cell) (q9 : Addr) (u : Nat → va_E) (H1 : Heap) (locs1 : List Loc), pe E u → wH G A s.heap s L u H1 locs1 → H1[q9]? = some ce → ce.vm = .none → s.vm.findClass E = some ce.cls → vx_W p l e R s m args below meth c H1 locs1 (cells + mc) (slots + ms) Q (F0 m pc ls rest) q9)
    (kk : ∀ (r : Int64) (u : Nat → va_E) (H1 : Heap) (locs1 : List Loc), post r u → wH G A s.heap s L u H1 locs1 → W p l e R s m args below meth c H1 locs1 (cells + mc) (slots + ms) Q (F0 m (pc + 3) ls (.long r :: rest))) : W p l e R s m args below meth c H locs cells slots Q (F0 m pc ls st0) := by
  refine vx_calll (vx_runS (As := As) (rest := rest) S9 hM cw ⟨xBlind, xPre hX hw _⟩ rfl rfl hsize hst hroom hdg hf) hw.2.2.2.1 (fun q _ h => wA_sub hw q h) (wA_sub hw) (fun q _ h => wA_sub hw q h) (fun E ce q9 u t H1 locs1 ht hvm _ hB _ _ hS hce hcv hcl => ?_) (fun r u t H1 locs1 ht hvm hp hB _ _ hS => ?_)
  · exact kx E ce q9 u H1 locs1 hB.1 (w_back hw ht hvm hB.2 hS) hce hcv hcl
  · exact kk r u H1 locs1 hp (w_back hw ht hvm hB hS)
/-- a call that may throw: behind it, and where it threw q9 -/
theorem x_callVl {post : Int64 → (Nat → va_E) → Prop} {b : Nat} (S9 : CallFix p m c cc nL s args uU own) (hX : tX A s s.heap) (hw : wH G A s.heap s L f H locs)
    (hM : vx_Met l y (uW y bytes maxL ret) rm (wInX G (.ref b :: As) L f H.size) (va_Ql post (fun g => wAt G (wA L f H.size) L g) (wA L f H.size)) (xX G (wA L f H.size) L pe) mc ms (wA L f H.size)) {ci : Nat} {fs : List Value} {q : vw_C} (hbL : b ∈ L) (hba : f b = eO ci fs) (hbc : vwCl[ci]? = some q) (hq : q.1 = y.cls) (cw : CallW R s args own y.cls index y bytes maxL ret (uW y bytes maxL ret) rm mc ms As.length)
    (hsize : ls.size = nL) (hst : st0 = As.reverse ++ .ref b :: rest) (hroom : 2 * (F0 m pc ls st0).monitorRoom + (rest.map fun v => v.category).sum ≤ 8) (hdg : decode cc pc = .ok (.invokevirtual index, 3)) (hf : cells + mc ≤ R.cells ∧ slots + ms ≤ R.slots)
    (kx : ∀ (E : String) (ce : Cell) (q9 : Addr) (u : Nat → va_E) (H1 : Heap) (locs1 : List Loc), pe E u → wH G A s.heap s L u H1 locs1 → H1[q9]? = some ce → ce.vm = .none → s.vm.findClass E = some ce.cls → vx_W p l e R s m args below meth c H1 locs1 (cells + mc) (slots + ms) Q (F0 m pc ls rest) q9)
    (kk : ∀ (r : Int64) (u : Nat → va_E) (H1 : Heap) (locs1 : List Loc), post r u → wH G A s.heap s L u H1 locs1 → W p l e R s m args below meth c H1 locs1 (cells + mc) (slots + ms) Q (F0 m (pc + 3) ls (.long r :: rest))) : W p l e R s m args below meth c H locs cells slots Q (F0 m pc ls st0) := by
  refine vx_calll (vx_runV (As := As) (rest := rest) S9 hM cw ⟨xBlind, by have h9 := w_recv hw hbL hba hbc; rw [hq] at h9; exact h9, xPre hX hw _⟩ rfl rfl hsize hst hroom hdg hf) hw.2.2.2.1 (fun q _ h => wA_sub hw q h) (wA_sub hw) (fun q _ h => wA_sub hw q h) (fun E ce q9 u t H1 locs1 ht hvm _ hB _ _ hS hce hcv hcl => ?_) (fun r u t H1 locs1 ht hvm hp hB _ _ hS => ?_)
  · exact kx E ce q9 u H1 locs1 hB.1 (w_back hw ht hvm hB.2 hS) hce hcv hcl
  · exact kk r u H1 locs1 hp (w_back hw ht hvm hB hS)
/-- a call that may throw: behind it, and where it threw q9 -/
theorem x_callSv {post : (Nat → va_E) → Prop} (S9 : CallFix p m c cc nL s args uU own) (hX : tX A s s.heap) (hw : wH G A s.heap s L f H locs)
    (hM : vx_Met l y (uW y bytes maxL ret) rm (wInX G As L f H.size) (va_Qv post (fun g => wAt G (wA L f H.size) L g) (wA L f H.size)) (xX G (wA L f H.size) L pe) mc ms (wA L f H.size)) (cw : CallB R s args own index y bytes maxL ret (uW y bytes maxL ret) rm mc ms As.length ∧ (Cond.static y).before args s = true)
    (hsize : ls.size = nL) (hst : st0 = As.reverse ++ rest) (hroom : 2 * (F0 m pc ls st0).monitorRoom + (rest.map fun v => v.category).sum ≤ 8) (hdg : decode cc pc = .ok (.invokestatic index, 3)) (hf : cells + mc ≤ R.cells ∧ slots + ms ≤ R.slots)
    (kx : ∀ (E : String) (ce : Cell) (q9 : Addr) (u : Nat → va_E) (H1 : Heap) (locs1 : List Loc), pe E u → wH G A s.heap s L u H1 locs1 → H1[q9]? = some ce → ce.vm = .none → s.vm.findClass E = some ce.cls → vx_W p l e R s m args below meth c H1 locs1 (cells + mc) (slots + ms) Q (F0 m pc ls rest) q9)
    (kk : ∀ (u : Nat → va_E) (H1 : Heap) (locs1 : List Loc), post u → wH G A s.heap s L u H1 locs1 → W p l e R s m args below meth c H1 locs1 (cells + mc) (slots + ms) Q (F0 m (pc + 3) ls (rest))) : W p l e R s m args below meth c H locs cells slots Q (F0 m pc ls st0) := by
  refine vx_callv (vx_runS (As := As) (rest := rest) S9 hM cw ⟨xBlind, xPre hX hw _⟩ rfl rfl hsize hst hroom hdg hf) hw.2.2.2.1 (fun q _ h => wA_sub hw q h) (wA_sub hw) (fun q _ h => wA_sub hw q h) (fun E ce q9 u t H1 locs1 ht hvm _ hB _ _ hS hce hcv hcl => ?_) (fun u t H1 locs1 ht hvm hp hB _ _ hS => ?_)
  · exact kx E ce q9 u H1 locs1 hB.1 (w_back hw ht hvm hB.2 hS) hce hcv hcl
  · exact kk u H1 locs1 hp (w_back hw ht hvm hB hS)
/-- a call that may throw: behind it, and where it threw q9 -/
theorem x_callVv {post : (Nat → va_E) → Prop} {b : Nat} (S9 : CallFix p m c cc nL s args uU own) (hX : tX A s s.heap) (hw : wH G A s.heap s L f H locs)
    (hM : vx_Met l y (uW y bytes maxL ret) rm (wInX G (.ref b :: As) L f H.size) (va_Qv post (fun g => wAt G (wA L f H.size) L g) (wA L f H.size)) (xX G (wA L f H.size) L pe) mc ms (wA L f H.size)) {ci : Nat} {fs : List Value} {q : vw_C} (hbL : b ∈ L) (hba : f b = eO ci fs) (hbc : vwCl[ci]? = some q) (hq : q.1 = y.cls) (cw : CallW R s args own y.cls index y bytes maxL ret (uW y bytes maxL ret) rm mc ms As.length)
    (hsize : ls.size = nL) (hst : st0 = As.reverse ++ .ref b :: rest) (hroom : 2 * (F0 m pc ls st0).monitorRoom + (rest.map fun v => v.category).sum ≤ 8) (hdg : decode cc pc = .ok (.invokevirtual index, 3)) (hf : cells + mc ≤ R.cells ∧ slots + ms ≤ R.slots)
    (kx : ∀ (E : String) (ce : Cell) (q9 : Addr) (u : Nat → va_E) (H1 : Heap) (locs1 : List Loc), pe E u → wH G A s.heap s L u H1 locs1 → H1[q9]? = some ce → ce.vm = .none → s.vm.findClass E = some ce.cls → vx_W p l e R s m args below meth c H1 locs1 (cells + mc) (slots + ms) Q (F0 m pc ls rest) q9)
    (kk : ∀ (u : Nat → va_E) (H1 : Heap) (locs1 : List Loc), post u → wH G A s.heap s L u H1 locs1 → W p l e R s m args below meth c H1 locs1 (cells + mc) (slots + ms) Q (F0 m (pc + 3) ls (rest))) : W p l e R s m args below meth c H locs cells slots Q (F0 m pc ls st0) := by
  refine vx_callv (vx_runV (As := As) (rest := rest) S9 hM cw ⟨xBlind, by have h9 := w_recv hw hbL hba hbc; rw [hq] at h9; exact h9, xPre hX hw _⟩ rfl rfl hsize hst hroom hdg hf) hw.2.2.2.1 (fun q _ h => wA_sub hw q h) (wA_sub hw) (fun q _ h => wA_sub hw q h) (fun E ce q9 u t H1 locs1 ht hvm _ hB _ _ hS hce hcv hcl => ?_) (fun u t H1 locs1 ht hvm hp hB _ _ hS => ?_)
  · exact kx E ce q9 u H1 locs1 hB.1 (w_back hw ht hvm hB.2 hS) hce hcv hcl
  · exact kk u H1 locs1 hp (w_back hw ht hvm hB hS)
/-- not caught here: it goes on to the caller -/
theorem x_out {Qc : Array Value → State → Outcome → State → Prop} {mcc mss : Nat} {E : String} {ce : Cell} {q9 : Addr} (hnt : ∀ x ∈ c.exceptionTable.toList, False) (hlocks : meth.locks = false) (hw : wH G A s.heap s L f H locs) (hpe : pe E f) (hce : H[q9]? = some ce) (hcv : ce.vm = .none) (hcl : s.vm.findClass E = some ce.cls) (hc : cells ≤ mcc) (hs : slots ≤ mss) :
    vx_W p l e R s m args below meth c H locs cells slots (vx_MQ below Qc (xX G A L pe) args s mcc mss A) (F0 m pc ls rest) q9 :=
  vx_out (fun x h => (hnt x h).elim) hlocks hce hcv hcl (fun t ht hvm => ⟨f, trivial, ⟨hpe, (w_later hw hvm (by rw [ht]; exact Nat.le_refl _) (fun q _ => by rw [ht])).1⟩, (w_later hw hvm (by rw [ht]; exact Nat.le_refl _) (fun q _ => by rw [ht])).2⟩) hw.2.2.2.1.2.2 hc hs
end XCalls
theorem at_AI : ∀ w ∈ (vx_atS RX7 234 nAI ["java/lang/IndexOutOfBoundsException", "java/lang/RuntimeException", "java/lang/Exception"]).filter goodWord, w ∈ uU := by decide +kernel
theorem an_AI : ∀ w ∈ (vx_atS RX7 234 nAI ["java/lang/IndexOutOfBoundsException", "java/lang/RuntimeException", "java/lang/Exception"]).filter (fun w => !goodWord w), w ∈ tXw := by decide +kernel
theorem at_IS : ∀ w ∈ (vx_atS RX7 155 nIS ["java/lang/RuntimeException", "java/lang/Exception"]).filter goodWord, w ∈ uU := by decide +kernel
theorem an_IS : ∀ w ∈ (vx_atS RX7 155 nIS ["java/lang/RuntimeException", "java/lang/Exception"]).filter (fun w => !goodWord w), w ∈ tXw := by decide +kernel
theorem at_IA : ∀ w ∈ (vx_atS RX7 113 nIA ["java/lang/RuntimeException", "java/lang/Exception"]).filter goodWord, w ∈ uU := by decide +kernel
theorem an_IA : ∀ w ∈ (vx_atS RX7 113 nIA ["java/lang/RuntimeException", "java/lang/Exception"]).filter (fun w => !goodWord w), w ∈ tXw := by decide +kernel
theorem at_AR : ∀ w ∈ (vx_atS RX7 139 nAR ["java/lang/RuntimeException", "java/lang/Exception"]).filter goodWord, w ∈ uU := by decide +kernel
theorem an_AR : ∀ w ∈ (vx_atS RX7 139 nAR ["java/lang/RuntimeException", "java/lang/Exception"]).filter (fun w => !goodWord w), w ∈ tXw := by decide +kernel
theorem ot_AI : ∀ w ∈ Cond.classLink RX7 230 nAI :: Cond.initialized nAI :: vx_atS RX7 234 nAI ["java/lang/IndexOutOfBoundsException", "java/lang/RuntimeException", "java/lang/Exception"], vx_ot w = true := by decide +kernel
theorem ot_IS : ∀ w ∈ Cond.classLink RX7 151 nIS :: Cond.initialized nIS :: vx_atS RX7 155 nIS ["java/lang/RuntimeException", "java/lang/Exception"], vx_ot w = true := by decide +kernel
theorem ot_IA : ∀ w ∈ Cond.classLink RX7 109 nIA :: Cond.initialized nIA :: vx_atS RX7 113 nIA ["java/lang/RuntimeException", "java/lang/Exception"], vx_ot w = true := by decide +kernel
theorem ot_AR : ∀ w ∈ Cond.classLink RX7 135 nAR :: Cond.initialized nAR :: vx_atS RX7 139 nAR ["java/lang/RuntimeException", "java/lang/Exception"], vx_ot w = true := by decide +kernel
theorem fit_AI : Bundle.fit nAI = true := by decide +kernel
theorem fit_IS : Bundle.fit nIS = true := by decide +kernel
theorem fit_IA : Bundle.fit nIA = true := by decide +kernel
theorem fit_AR : Bundle.fit nAR = true := by decide +kernel
theorem fitn_3 : ∀ n ∈ ["java/lang/IndexOutOfBoundsException", "java/lang/RuntimeException", "java/lang/Exception"], Bundle.fit n = true := by decide +kernel
theorem fitn_2 : ∀ n ∈ ["java/lang/RuntimeException", "java/lang/Exception"], Bundle.fit n = true := by decide +kernel
theorem uw_classLink_RX7_230_nAI : Cond.classLink RX7 230 nAI ∈ uU := uU_in (by decide +kernel) (by decide +kernel)
theorem uw_initialized_nAI : Cond.initialized nAI ∈ uU := uU_in (by decide +kernel) (by decide +kernel)
theorem uw_classLink_RX7_151_nIS : Cond.classLink RX7 151 nIS ∈ uU := uU_in (by decide +kernel) (by decide +kernel)
theorem uw_initialized_nIS : Cond.initialized nIS ∈ uU := uU_in (by decide +kernel) (by decide +kernel)
theorem uw_classLink_RX7_109_nIA : Cond.classLink RX7 109 nIA ∈ uU := uU_in (by decide +kernel) (by decide +kernel)
theorem uw_initialized_nIA : Cond.initialized nIA ∈ uU := uU_in (by decide +kernel) (by decide +kernel)
theorem uw_classLink_RX7_135_nAR : Cond.classLink RX7 135 nAR ∈ uU := uU_in (by decide +kernel) (by decide +kernel)
theorem uw_initialized_nAR : Cond.initialized nAR ∈ uU := uU_in (by decide +kernel) (by decide +kernel)
