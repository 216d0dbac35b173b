def PRl : List Int := [16777259, 16777289, 16777291, 16777331, 16777333, 16777337, 16777381, 16777421, 16777441, 16777447, 16777469, 16777499, 16777507, 16777531, 16777571, 16777577]
def PRn (i : Nat) : Int := PRl.getD i 0
def oPR (i : Int) : Option Int := if 0 ≤ i ∧ i < 16 then some (PRn i.toNat) else none
def orW (x y : Int) : Option Int := if inI x ∧ inI y ∧ 0 < y then some (x.tmod y) else none
def eN (k : Nat) : String := if k = 1 then nAI else if k = 2 then nIS else if k = 3 then nIA else nAR
/-- the static table of the primes: nobody writes it -/
def tP (A : Nat → Prop) (U : State) (H : Heap) : Prop := ∃ t : Nat, va_Z RX7 "PRIMES" "[J" (.ref t) A U H ∧ va_T .long t 16 (fun j => .long (Int64.ofInt (PRn j))) A U H ∧ va_Nw (.fieldLinkNest RX0 35 RX7 "PRIMES" "[J" RX7) U
def tY (A : Nat → Prop) (U : State) (H : Heap) : Prop := tX A U H ∧ tP A U H
theorem tP_on : (Cond.fieldLinkNest RX0 35 RX7 "PRIMES" "[J" RX7).onTables = true := by decide +kernel
theorem tP.at {G : gG} {A : Nat → Prop} {s : State} {L : List Nat} {f : Nat → va_E} {H : Heap} {locs : List Loc} (h : tP A s s.heap) (hw : wH G A s.heap s L f H locs) {U : State} (hU : U.heap = H) (hW : s.WarmedH U.vm) : tP (wA L f H.size) U U.heap := by
  obtain ⟨t, h1, h2, h3⟩ := h
  have hS := hw.2.2.2.1
  refine ⟨t, ?_, ?_, (va_Nw.warmF hW h3)⟩
  · rw [hU]; exact ((h1.kept hS.2.1).narrow (wA_sub hw)).moved hW.alike
  · rw [hU]; exact ((h2.kept hS.2.1).narrow (wA_sub hw)).moved hW.alike
theorem tY.at {G : gG} {A : Nat → Prop} {s : State} {L : List Nat} {f : Nat → va_E} {H : Heap} {locs : List Loc} (h : tY A s s.heap) (hw : wH G A s.heap s L f H locs) {U : State} (hU : U.heap = H) (hW : s.WarmedH U.vm) : tY (wA L f H.size) U U.heap := ⟨h.1.at hw hU hW, h.2.at hw hU hW⟩
def wInY (G : gG) (av : List Value) (L : List Nat) (f : Nat → va_E) (sz : Nat) : Array Value → State → Prop :=
  va_Pc av (fun U => U.heap.size = sz ∧ va_P G.1 vwCl (va_pl L f) U.heap ∧ va_K G.1 vwCl (wty G) U ∧ va_D (fun _ => True) (va_pl L f) ∧ tY (wA L f sz) U U.heap)
theorem yBlind {G : gG} {av : List Value} {L : List Nat} {f : Nat → va_E} {sz : Nat} : FrameBlind (wInY G av L f sz) := fun a U g mk q => by
  obtain ⟨q0, q1, qP, qK, qD, qt, t, qz, qT, qN⟩ := q
  obtain ⟨-, -, -, -, -, qx⟩ := xBlind a U g mk (show wInX G av L f sz a U from ⟨q0, q1, qP, qK, qD, qt⟩)
  exact ⟨q0, q1, qP, va_K.moved (u := U) (U := U.calling g mk a) (Vm.Alike.refl U.vm) qK, qD, qx, t, va_Z.moved (u := U) (U := U.calling g mk a) (Vm.Alike.refl U.vm) qz, va_T.moved (u := U) (U := U.calling g mk a) (Vm.Alike.refl U.vm) qT, va_Nw.same (u := U) (U := U.calling g mk a) tP_on rfl qN⟩
theorem yPre {G : gG} {A : Nat → Prop} {s : State} {L : List Nat} {f : Nat → va_E} {H : Heap} {locs : List Loc} (hY : tY A s s.heap) (hw : wH G A s.heap s L f H locs) (av : List Value) : ∀ U : State, U.heap = H → s.WarmedH U.vm → wInY G av L f H.size av.toArray U := by
  intro U hU hW
  obtain ⟨-, q1, q2, q3, q4⟩ := wPre hw av U hU hW
  exact ⟨rfl, q1, q2, q3, q4, hY.at hw hU hW⟩
set_option maxHeartbeats 1000000 in
theorem yEnterX {l : Launch} {y : MethodName} {rm : Room} {G : gG} {av : List Value} {L : List Nat} {f : Nat → va_E} {sz : Nat} {Qc : Array Value → State → Outcome → State → Prop} {XC : String → State → State → Prop} {mc ms : Nat} {cc : ByteArray} {n : Nat} {ret : Option FieldType}
    (hy : plainName y.cls = true) (hn : (lg_sl av).length ≤ n)
    (body : ∀ (p : Program) (e : Env) (s : State) (m : MethodId) (below : List Frame) (meth : Method) (c : Code) (ls : Array Slot), cX p s m av.toArray meth c cc ret n y.cls → (∀ x ∈ c.exceptionTable.toList, False) → lv_has ls n (lv_args 0 av) → s.heap.size = sz → wH G (wA L f sz) s.heap s L f s.heap [] → tY (wA L f sz) s s.heap →
      W p l e rm s m av.toArray below meth c s.heap [] 0 0 (vx_MQ below Qc XC av.toArray s mc ms (wA L f sz)) (F0 m 0 ls [])) :
    vx_Met l y (uW y cc n ret) rm (wInY G av L f sz) Qc XC mc ms (wA L f sz) := by
  refine vx_ofW (cc := cc) (maxL := n) (ret := ret) hy rfl ?_
  intro p e s m args below meth c s₁ B hml hnt hv
  obtain ⟨rfl, hsz, hP, hK, hD0, hX⟩ := hv
  have hts := atoms_spec (ws := uW y cc n ret) B.pre
  have hown : s.vm.findClass y.cls = some m.cls := findClass_of_methodNamed B.named
  have hl := lv_entry av (n := n) hn
  rw [lg_entry_eq]
  exact body p e s m below meth c _ ⟨B.exec, B.bytes, B.returns, hml, hown, fun w h => hts w (List.mem_cons_of_mem _ h), B.notSynchronized⟩ hnt hl hsz ⟨hK, hP, hD0.self, va_S.rf, fun q h => Or.inr (by rw [← hsz]; exact h)⟩ hX
set_option maxHeartbeats 1000000 in
theorem yEnter {l : Launch} {y : MethodName} {rm : Room} {G : gG} {av : List Value} {L : List Nat} {f : Nat → va_E} {sz : Nat} {Qc : Array Value → State → Outcome → State → Prop} {mc ms : Nat} {cc : ByteArray} {n : Nat} {ret : Option FieldType}
    (hy : plainName y.cls = true) (hn : (lg_sl av).length ≤ n)
    (body : ∀ (p : Program) (e : Env) (s : State) (m : MethodId) (below : List Frame) (meth : Method) (c : Code) (ls : Array Slot), cX p s m av.toArray meth c cc ret n y.cls → lv_has ls n (lv_args 0 av) → s.heap.size = sz → wH G (wA L f sz) s.heap s L f s.heap [] → tY (wA L f sz) s s.heap →
      W p l e rm s m av.toArray below meth c s.heap [] 0 0 (MQ below Qc av.toArray s mc ms (wA L f sz)) (F0 m 0 ls [])) :
    Met l y (uW y cc n ret) rm (wInY G av L f sz) Qc mc ms (wA L f sz) := by
  refine Met.ofW (cc := cc) (maxL := n) (ret := ret) hy rfl ?_
  intro p e s m args below meth c s₁ B hml hv
  obtain ⟨rfl, hsz, hP, hK, hD0, hX⟩ := hv
  have hts := atoms_spec (ws := uW y cc n ret) B.pre
  have hown : s.vm.findClass y.cls = some m.cls := findClass_of_methodNamed B.named
  have hl := lv_entry av (n := n) hn
  rw [lg_entry_eq]
  exact body p e s m below meth c _ ⟨B.exec, B.bytes, B.returns, hml, hown, fun w h => hts w (List.mem_cons_of_mem _ h), B.notSynchronized⟩ hl hsz ⟨hK, hP, hD0.self, va_S.rf, fun q h => Or.inr (by rw [← hsz]; exact h)⟩ hX
abbrev yV (l : Launch) (y : MethodName) (bytes : ByteArray) (maxL : Nat) (ret : Option FieldType) (rm : Room) (G : gG) (adr : Nat → Nat) (av : List Value) (M : Mem) (sz mc ms : Nat) (o : (Nat × MI) ⊕ MI) : Prop :=
  vx_Met l y (uW y bytes maxL ret) rm (wInY G av (LL adr) (wf G adr M) sz) (va_Qv (fun (u : Mem) => ∃ M', o = .inr M' ∧ u = tm M') (fun u => wAt G (wA (LL adr) (wf G adr M) sz) (LL adr) (wf G adr u)) (wA (LL adr) (wf G adr M) sz)) (xX G (wA (LL adr) (wf G adr M) sz) (LL adr) (fun E g => ∃ k M', o = .inl (k, M') ∧ E = eN k ∧ g = wf G adr (tm M'))) mc ms (wA (LL adr) (wf G adr M) sz)
abbrev yI (l : Launch) (y : MethodName) (bytes : ByteArray) (maxL : Nat) (ret : Option FieldType) (rm : Room) (G : gG) (adr : Nat → Nat) (av : List Value) (M : Mem) (sz mc ms : Nat) (o : (Nat × MI) ⊕ (Int × MI)) : Prop :=
  vx_Met l y (uW y bytes maxL ret) rm (wInY G av (LL adr) (wf G adr M) sz) (va_Qi (fun (r9 : Int32) (u : Mem) => ∃ r M', o = .inr (r, M') ∧ r9 = Int32.ofInt r ∧ u = tm M') (fun u => wAt G (wA (LL adr) (wf G adr M) sz) (LL adr) (wf G adr u)) (wA (LL adr) (wf G adr M) sz)) (xX G (wA (LL adr) (wf G adr M) sz) (LL adr) (fun E g => ∃ k M', o = .inl (k, M') ∧ E = eN k ∧ g = wf G adr (tm M'))) mc ms (wA (LL adr) (wf G adr M) sz)
abbrev pV (l : Launch) (y : MethodName) (bytes : ByteArray) (maxL : Nat) (ret : Option FieldType) (rm : Room) (G : gG) (adr : Nat → Nat) (av : List Value) (M : Mem) (sz : Nat) (M' : Mem) : Prop :=
  Met l y (uW y bytes maxL ret) rm (wInY G av (LL adr) (wf G adr M) sz) (va_Qv (fun (u : Mem) => u = M') (fun u => wAt G (wA (LL adr) (wf G adr M) sz) (LL adr) (wf G adr u)) (wA (LL adr) (wf G adr M) sz)) 0 0 (wA (LL adr) (wf G adr M) sz)
section YCalls
variable {p : Program} {l : Launch} {e : Env} {R : Room} {s : State} {m : MethodId} {args : Array Value} {below : List Frame} {meth : Method} {c : Code} {H : Heap} {locs : List Loc} {cells slots : Nat} {Q : State → Prop}
variable {cc : ByteArray} {pc : Nat} {ls : Array Slot} {rest st0 : List Value} {G : gG} {A : Nat → Prop} {H0 : Heap} {adr : Nat → Nat} {M M' : Mem} {y : MethodName} {bytes : ByteArray} {maxL nL index mc ms c1 s1 : Nat} {ret : Option FieldType} {rm : Room} {own : String} {As : List Value}
theorem o_pr (hx : p.tables.exec = Jvm.exec) (hb : c.code = cc) {t : Nat} (hT : va_T .long t 16 (fun j => .long (Int64.ofInt (PRn j))) A s s.heap) (hw : wH G A s.heap s (LL adr) (wf G adr M) H locs) {i v : Int} (h : oPR i = some v) (hdg : decode cc pc = .ok (.laload, 1)) (kk : W p l e R s m args below meth c H locs cells slots Q (F0 m (pc + 1) ls (.long (Int64.ofInt v) :: rest))) : W p l e R s m args below meth c H locs cells slots Q (F0 m pc ls (.int (Int32.ofInt i) :: .ref t :: rest)) := by
  obtain ⟨⟨h1, h2⟩, rfl⟩ := ite_s h
  obtain ⟨h3, h4⟩ := i3_ix (n := 16) h1 (by omega) (by decide)
  exact va_tl hx hb hT hw.2.2.2.1 h3 (by show Value.long (Int64.ofInt (PRn (Int32.ofInt i).toNatClampNeg)) = _; rw [h4]) hdg kk
theorem i3_remW {x y : Int} (hx : inI x) (hy : inI y) (hp : 0 < y) : Int32.ofInt x - Int32.ofInt x / Int32.ofInt y * Int32.ofInt y = Int32.ofInt (x.tmod y) := by
  have hd : Int32.ofInt x / Int32.ofInt y = Int32.ofInt (x.tdiv y) := by
    rw [← Int32.ofInt_toInt (Int32.ofInt x / Int32.ofInt y), Int32.toInt_div_of_ne_right, i3_t hx, i3_t hy]
    intro q
    have := congrArg Int32.toInt q
    rw [i3_t hy] at this
    have h2 : (-1 : Int32).toInt = -1 := rfl
    omega
  rw [hd, ← i3_mul, ← i3_sub, Int.tmod_def, Int.mul_comm]
theorem o_iremW (hx : p.tables.exec = Jvm.exec) (hb : c.code = cc) {x y z : Int} (h : orW x y = some z) (hdg : decode cc pc = .ok (.irem, 1)) (kk : W p l e R s m args below meth c H locs cells slots Q (F0 m (pc + 1) ls (.int (Int32.ofInt z) :: rest))) : W p l e R s m args below meth c H locs cells slots Q (F0 m pc ls (.int (Int32.ofInt y) :: .int (Int32.ofInt x) :: rest)) := by
  obtain ⟨⟨h1, h2, h3⟩, rfl⟩ := ite_s h
  refine lv_irem hx hb hdg (fun q => by have := (i3_eq h2 (show inI 0 by omega)).mp q; omega) ?_
  rw [i3_remW h1 h2 h3]; exact kk
theorem n_callSi (S9 : CallFix p m c cc nL s args uU own) (hw : wH G A H0 s (LL adr) (wf G adr M) H locs) {r : Int32} (hM : mI l y bytes maxL ret rm G adr As M H.size r M') (cw : CallB R s args own index y bytes maxL ret (uW y bytes maxL ret) rm 0 0 As.length ∧ (Cond.static y).before args s = true)
    (hf : cells + 0 ≤ R.cells ∧ slots + 0 ≤ R.slots) (hsize : ls.size = nL) (hst : st0 = As.reverse ++ rest) (hroom : 2 * (F0 m pc ls st0).monitorRoom + (rest.map fun v => v.category).sum ≤ 8) (hdg : decode cc pc = .ok (.invokestatic index, 3))
    (kk : ∀ (H1 : Heap) (locs1 : List Loc), wH G A H0 s (LL adr) (wf G adr M') H1 locs1 → W p l e R s m args below meth c H1 locs1 cells slots Q (F0 m (pc + 3) ls (.int r :: rest))) : W p l e R s m args below meth c H locs cells slots Q (F0 m pc ls st0) :=
  w_callSi (lf := fun u => (LL adr, wf G adr u)) S9 hw hM cw hsize hst hroom hdg hf (fun r u H1 locs1 hp hw => by
    obtain ⟨rfl, rfl⟩ := hp
    exact kk H1 locs1 hw)
theorem n_callVi {k : Nat} (S9 : CallFix p m c cc nL s args uU own) (hi : adi adr) (hw : wH G A H0 s (LL adr) (wf G adr M) H locs) {r : Int32} (hM : mI l y bytes maxL ret rm G adr (.ref (adr k) :: As) M H.size r M') (hkd : kd k = 5) {q : vw_C} (hbc : vwCl[kn k]? = some q) (hq : q.1 = y.cls) (cw : CallW R s args own y.cls index y bytes maxL ret (uW y bytes maxL ret) rm 0 0 As.length)
    (hf : cells + 0 ≤ R.cells ∧ slots + 0 ≤ R.slots) (hsize : ls.size = nL) (hst : st0 = As.reverse ++ .ref (adr k) :: rest) (hroom : 2 * (F0 m pc ls st0).monitorRoom + (rest.map fun v => v.category).sum ≤ 8) (hdg : decode cc pc = .ok (.invokevirtual index, 3))
    (kk : ∀ (H1 : Heap) (locs1 : List Loc), wH G A H0 s (LL adr) (wf G adr M') H1 locs1 → W p l e R s m args below meth c H1 locs1 cells slots Q (F0 m (pc + 3) ls (.int r :: rest))) : W p l e R s m args below meth c H locs cells slots Q (F0 m pc ls st0) :=
  w_callVi (lf := fun u => (LL adr, wf G adr u)) S9 hw hM (LL_mem (kd_lt (by omega))) ((wf_adr hi M (kd_lt (by omega))).trans (ent_O hkd)) hbc hq cw hsize hst hroom hdg hf (fun r u H1 locs1 hp hw => by
    obtain ⟨rfl, rfl⟩ := hp
    exact kk H1 locs1 hw)

theorem n_callSl (S9 : CallFix p m c cc nL s args uU own) (hw : wH G A H0 s (LL adr) (wf G adr M) H locs) {r : Int64} (hM : mL l y bytes maxL ret rm G adr As M H.size r M') (cw : CallB R s args own index y bytes maxL ret (uW y bytes maxL ret) rm 0 0 As.length ∧ (Cond.static y).before args s = true)
    (hf : cells + 0 ≤ R.cells ∧ slots + 0 ≤ R.slots) (hsize : ls.size = nL) (hst : st0 = As.reverse ++ rest) (hroom : 2 * (F0 m pc ls st0).monitorRoom + (rest.map fun v => v.category).sum ≤ 8) (hdg : decode cc pc = .ok (.invokestatic index, 3))
    (kk : ∀ (H1 : Heap) (locs1 : List Loc), wH G A H0 s (LL adr) (wf G adr M') H1 locs1 → W p l e R s m args below meth c H1 locs1 cells slots Q (F0 m (pc + 3) ls (.long r :: rest))) : W p l e R s m args below meth c H locs cells slots Q (F0 m pc ls st0) :=
  w_callSl (lf := fun u => (LL adr, wf G adr u)) S9 hw hM cw hsize hst hroom hdg hf (fun r u H1 locs1 hp hw => by
    obtain ⟨rfl, rfl⟩ := hp
    exact kk H1 locs1 hw)
theorem n_callVl {k : Nat} (S9 : CallFix p m c cc nL s args uU own) (hi : adi adr) (hw : wH G A H0 s (LL adr) (wf G adr M) H locs) {r : Int64} (hM : mL l y bytes maxL ret rm G adr (.ref (adr k) :: As) M H.size r M') (hkd : kd k = 5) {q : vw_C} (hbc : vwCl[kn k]? = some q) (hq : q.1 = y.cls) (cw : CallW R s args own y.cls index y bytes maxL ret (uW y bytes maxL ret) rm 0 0 As.length)
    (hf : cells + 0 ≤ R.cells ∧ slots + 0 ≤ R.slots) (hsize : ls.size = nL) (hst : st0 = As.reverse ++ .ref (adr k) :: rest) (hroom : 2 * (F0 m pc ls st0).monitorRoom + (rest.map fun v => v.category).sum ≤ 8) (hdg : decode cc pc = .ok (.invokevirtual index, 3))
    (kk : ∀ (H1 : Heap) (locs1 : List Loc), wH G A H0 s (LL adr) (wf G adr M') H1 locs1 → W p l e R s m args below meth c H1 locs1 cells slots Q (F0 m (pc + 3) ls (.long r :: rest))) : W p l e R s m args below meth c H locs cells slots Q (F0 m pc ls st0) :=
  w_callVl (lf := fun u => (LL adr, wf G adr u)) S9 hw hM (LL_mem (kd_lt (by omega))) ((wf_adr hi M (kd_lt (by omega))).trans (ent_O hkd)) hbc hq cw hsize hst hroom hdg hf (fun r u H1 locs1 hp hw => by
    obtain ⟨rfl, rfl⟩ := hp
    exact kk H1 locs1 hw)

theorem n_callSv (S9 : CallFix p m c cc nL s args uU own) (hw : wH G A H0 s (LL adr) (wf G adr M) H locs) (hM : mV l y bytes maxL ret rm G adr As M H.size M') (cw : CallB R s args own index y bytes maxL ret (uW y bytes maxL ret) rm 0 0 As.length ∧ (Cond.static y).before args s = true)
    (hf : cells + 0 ≤ R.cells ∧ slots + 0 ≤ R.slots) (hsize : ls.size = nL) (hst : st0 = As.reverse ++ rest) (hroom : 2 * (F0 m pc ls st0).monitorRoom + (rest.map fun v => v.category).sum ≤ 8) (hdg : decode cc pc = .ok (.invokestatic index, 3))
    (kk : ∀ (H1 : Heap) (locs1 : List Loc), wH G A H0 s (LL adr) (wf G adr M') H1 locs1 → W p l e R s m args below meth c H1 locs1 cells slots Q (F0 m (pc + 3) ls rest)) : W p l e R s m args below meth c H locs cells slots Q (F0 m pc ls st0) :=
  w_callSv (lf := fun u => (LL adr, wf G adr u)) S9 hw hM cw hsize hst hroom hdg hf (fun u H1 locs1 hp hw => by
    subst hp
    exact kk H1 locs1 hw)
theorem n_callVv {k : Nat} (S9 : CallFix p m c cc nL s args uU own) (hi : adi adr) (hw : wH G A H0 s (LL adr) (wf G adr M) H locs) (hM : mV l y bytes maxL ret rm G adr (.ref (adr k) :: As) M H.size M') (hkd : kd k = 5) {q : vw_C} (hbc : vwCl[kn k]? = some q) (hq : q.1 = y.cls) (cw : CallW R s args own y.cls index y bytes maxL ret (uW y bytes maxL ret) rm 0 0 As.length)
    (hf : cells + 0 ≤ R.cells ∧ slots + 0 ≤ R.slots) (hsize : ls.size = nL) (hst : st0 = As.reverse ++ .ref (adr k) :: rest) (hroom : 2 * (F0 m pc ls st0).monitorRoom + (rest.map fun v => v.category).sum ≤ 8) (hdg : decode cc pc = .ok (.invokevirtual index, 3))
    (kk : ∀ (H1 : Heap) (locs1 : List Loc), wH G A H0 s (LL adr) (wf G adr M') H1 locs1 → W p l e R s m args below meth c H1 locs1 cells slots Q (F0 m (pc + 3) ls rest)) : W p l e R s m args below meth c H locs cells slots Q (F0 m pc ls st0) :=
  w_callVv (lf := fun u => (LL adr, wf G adr u)) S9 hw hM (LL_mem (kd_lt (by omega))) ((wf_adr hi M (kd_lt (by omega))).trans (ent_O hkd)) hbc hq cw hsize hst hroom hdg hf (fun u H1 locs1 hp hw => by
    subst hp
    exact kk H1 locs1 hw)


theorem p_callVv {k : Nat} (S9 : CallFix p m c cc nL s args uU own) (hi : adi adr) (hY : tY A s s.heap) (hw : wH G A s.heap s (LL adr) (wf G adr M) H locs) (hM : pV l y bytes maxL ret rm G adr (.ref (adr k) :: As) M H.size M') (hkd : kd k = 5) {q : vw_C} (hbc : vwCl[kn k]? = some q) (hq : q.1 = y.cls) (cw : CallW R s args own y.cls index y bytes maxL ret (uW y bytes maxL ret) rm 0 0 As.length)
    (hsize : ls.size = nL) (hst : st0 = As.reverse ++ .ref (adr k) :: rest) (hroom : 2 * (F0 m pc ls st0).monitorRoom + (rest.map fun v => v.category).sum ≤ 8) (hdg : decode cc pc = .ok (.invokevirtual index, 3)) (hf : cells + 0 ≤ R.cells ∧ slots + 0 ≤ R.slots)
    (kk : ∀ (H1 : Heap) (locs1 : List Loc), wH G A s.heap s (LL adr) (wf G adr M') H1 locs1 → W p l e R s m args below meth c H1 locs1 cells slots Q (F0 m (pc + 3) ls rest)) : W p l e R s m args below meth c H locs cells slots Q (F0 m pc ls st0) := by
  refine va_callv (va_runV (As := As) (rest := rest) S9 hM cw ⟨yBlind, by have h9 := w_recv hw (LL_mem (kd_lt (by omega))) ((wf_adr hi M (kd_lt (by omega))).trans (ent_O hkd)) hbc; rw [hq] at h9; exact h9, yPre hY hw _⟩ rfl rfl hsize hst hroom hdg hf) hw.2.2.2.1 (fun q _ h => wA_sub hw q h) (wA_sub hw) (fun u t H1 locs1 ht hvm hp hB _ _ hS => ?_)
  subst hp
  exact kk H1 locs1 (w_back hw ht hvm hB hS)
theorem y_callSv {o : (Nat × MI) ⊕ MI} (S9 : CallFix p m c cc nL s args uU own) (hY : tY A s s.heap) (hw : wH G A s.heap s (LL adr) (wf G adr M) H locs) (hM : yV l y bytes maxL ret rm G adr As M H.size mc ms o) (cw : CallB R s args own index y bytes maxL ret (uW y bytes maxL ret) rm mc ms As.length ∧ (Cond.static y).before args s = true)
    (hsize : ls.size = nL) (hst : st0 = As.reverse ++ rest) (hroom : 2 * (F0 m pc ls st0).monitorRoom + (rest.map fun v => v.category).sum ≤ 8) (hdg : decode cc pc = .ok (.invokestatic index, 3)) (hf : cells + mc ≤ R.cells ∧ slots + ms ≤ R.slots) (hc : cells + mc = c1) (hs : slots + ms = s1)
    (kx : ∀ (k : Nat) (M' : MI) (ce : Cell) (q9 : Addr) (H1 : Heap) (locs1 : List Loc), o = .inl (k, M') → wH G A s.heap s (LL adr) (wf G adr (tm M')) H1 locs1 → H1[q9]? = some ce → ce.vm = .none → s.vm.findClass (eN k) = some ce.cls → vx_W p l e R s m args below meth c H1 locs1 c1 s1 Q (F0 m pc ls rest) q9)
    (kk : ∀ (M' : MI) (H1 : Heap) (locs1 : List Loc), o = .inr M' → wH G A s.heap s (LL adr) (wf G adr (tm M')) H1 locs1 → W p l e R s m args below meth c H1 locs1 c1 s1 Q (F0 m (pc + 3) ls rest)) : W p l e R s m args below meth c H locs cells slots Q (F0 m pc ls st0) := by
  subst hc hs
  refine vx_callv (vx_runS (As := As) (rest := rest) S9 hM cw ⟨yBlind, yPre hY hw _⟩ rfl rfl hsize hst hroom hdg hf) hw.2.2.2.1 (fun q _ h => wA_sub hw q h) (wA_sub hw) (fun q _ h => wA_sub hw q h) (fun E ce q9 u t H1 locs1 ht hvm _ hB _ _ hS hce hcv hcl => ?_) (fun u t H1 locs1 ht hvm hp hB _ _ hS => ?_)
  · obtain ⟨⟨k, M', ho, rfl, rfl⟩, hB⟩ := hB
    exact kx k M' ce q9 H1 locs1 ho (w_back hw ht hvm hB hS) hce hcv hcl
  · obtain ⟨M', ho, rfl⟩ := hp
    exact kk M' H1 locs1 ho (w_back hw ht hvm hB hS)
theorem y_callVv {k : Nat} {o : (Nat × MI) ⊕ MI} (S9 : CallFix p m c cc nL s args uU own) (hi : adi adr) (hY : tY A s s.heap) (hw : wH G A s.heap s (LL adr) (wf G adr M) H locs) (hM : yV l y bytes maxL ret rm G adr (.ref (adr k) :: As) M H.size mc ms o) (hkd : kd k = 5) {q : vw_C} (hbc : vwCl[kn k]? = some q) (hq : q.1 = y.cls) (cw : CallW R s args own y.cls index y bytes maxL ret (uW y bytes maxL ret) rm mc ms As.length)
    (hsize : ls.size = nL) (hst : st0 = As.reverse ++ .ref (adr k) :: rest) (hroom : 2 * (F0 m pc ls st0).monitorRoom + (rest.map fun v => v.category).sum ≤ 8) (hdg : decode cc pc = .ok (.invokevirtual index, 3)) (hf : cells + mc ≤ R.cells ∧ slots + ms ≤ R.slots) (hc : cells + mc = c1) (hs : slots + ms = s1)
    (kx : ∀ (k : Nat) (M' : MI) (ce : Cell) (q9 : Addr) (H1 : Heap) (locs1 : List Loc), o = .inl (k, M') → wH G A s.heap s (LL adr) (wf G adr (tm M')) H1 locs1 → H1[q9]? = some ce → ce.vm = .none → s.vm.findClass (eN k) = some ce.cls → vx_W p l e R s m args below meth c H1 locs1 c1 s1 Q (F0 m pc ls rest) q9)
    (kk : ∀ (M' : MI) (H1 : Heap) (locs1 : List Loc), o = .inr M' → wH G A s.heap s (LL adr) (wf G adr (tm M')) H1 locs1 → W p l e R s m args below meth c H1 locs1 c1 s1 Q (F0 m (pc + 3) ls rest)) : W p l e R s m args below meth c H locs cells slots Q (F0 m pc ls st0) := by
  subst hc hs
  refine vx_callv (vx_runV (As := As) (rest := rest) S9 hM cw ⟨yBlind, by have h9 := w_recv hw (LL_mem (kd_lt (by omega))) ((wf_adr hi M (kd_lt (by omega))).trans (ent_O hkd)) hbc; rw [hq] at h9; exact h9, yPre hY hw _⟩ rfl rfl hsize hst hroom hdg hf) hw.2.2.2.1 (fun q _ h => wA_sub hw q h) (wA_sub hw) (fun q _ h => wA_sub hw q h) (fun E ce q9 u t H1 locs1 ht hvm _ hB _ _ hS hce hcv hcl => ?_) (fun u t H1 locs1 ht hvm hp hB _ _ hS => ?_)
  · obtain ⟨⟨k, M', ho, rfl, rfl⟩, hB⟩ := hB
    exact kx k M' ce q9 H1 locs1 ho (w_back hw ht hvm hB hS) hce hcv hcl
  · obtain ⟨M', ho, rfl⟩ := hp
    exact kk M' H1 locs1 ho (w_back hw ht hvm hB hS)
theorem y_callVi {k : Nat} {o : (Nat × MI) ⊕ (Int × MI)} (S9 : CallFix p m c cc nL s args uU own) (hi : adi adr) (hY : tY A s s.heap) (hw : wH G A s.heap s (LL adr) (wf G adr M) H locs) (hM : yI l y bytes maxL ret rm G adr (.ref (adr k) :: As) M H.size mc ms o) (hkd : kd k = 5) {q : vw_C} (hbc : vwCl[kn k]? = some q) (hq : q.1 = y.cls) (cw : CallW R s args own y.cls index y bytes maxL ret (uW y bytes maxL ret) rm mc ms As.length)
    (hsize : ls.size = nL) (hst : st0 = As.reverse ++ .ref (adr k) :: rest) (hroom : 2 * (F0 m pc ls st0).monitorRoom + (rest.map fun v => v.category).sum ≤ 8) (hdg : decode cc pc = .ok (.invokevirtual index, 3)) (hf : cells + mc ≤ R.cells ∧ slots + ms ≤ R.slots) (hc : cells + mc = c1) (hs : slots + ms = s1)
    (kx : ∀ (k : Nat) (M' : MI) (ce : Cell) (q9 : Addr) (H1 : Heap) (locs1 : List Loc), o = .inl (k, M') → wH G A s.heap s (LL adr) (wf G adr (tm M')) H1 locs1 → H1[q9]? = some ce → ce.vm = .none → s.vm.findClass (eN k) = some ce.cls → vx_W p l e R s m args below meth c H1 locs1 c1 s1 Q (F0 m pc ls rest) q9)
    (kk : ∀ (r : Int) (M' : MI) (H1 : Heap) (locs1 : List Loc), o = .inr (r, M') → wH G A s.heap s (LL adr) (wf G adr (tm M')) H1 locs1 → W p l e R s m args below meth c H1 locs1 c1 s1 Q (F0 m (pc + 3) ls (.int (Int32.ofInt r) :: rest))) : W p l e R s m args below meth c H locs cells slots Q (F0 m pc ls st0) := by
  subst hc hs
  refine vx_calli (vx_runV (As := As) (rest := rest) S9 hM cw ⟨yBlind, by have h9 := w_recv hw (LL_mem (kd_lt (by omega))) ((wf_adr hi M (kd_lt (by omega))).trans (ent_O hkd)) hbc; rw [hq] at h9; exact h9, yPre hY hw _⟩ rfl rfl hsize hst hroom hdg hf) hw.2.2.2.1 (fun q _ h => wA_sub hw q h) (wA_sub hw) (fun q _ h => wA_sub hw q h) (fun E ce q9 u t H1 locs1 ht hvm _ hB _ _ hS hce hcv hcl => ?_) (fun r u t H1 locs1 ht hvm hp hB _ _ hS => ?_)
  · obtain ⟨⟨k, M', ho, rfl, rfl⟩, hB⟩ := hB
    exact kx k M' ce q9 H1 locs1 ho (w_back hw ht hvm hB hS) hce hcv hcl
  · obtain ⟨r, M', ho, rfl, rfl⟩ := hp
    exact kk r M' H1 locs1 ho (w_back hw ht hvm hB hS)
end YCalls
