/-! the one list of words that every contract speaks of -/
def uU : List Cond := lw_tbl.filter goodWord
theorem uU_in {w : Cond} (h : w ∈ lw_tbl) (g : goodWord w = true) : w ∈ uU := List.mem_filter.mpr ⟨h, g⟩
theorem uU_tbl {w : Cond} (h : w ∈ uU) : w ∈ lw_tbl := (List.mem_filter.mp h).1
theorem uU_good {w : Cond} (h : w ∈ uU) : goodWord w = true := (List.mem_filter.mp h).2
def uW (y : MethodName) (cc : ByteArray) (n : Nat) (ret : Option FieldType) : List Cond := .code y cc n ret :: uU
theorem uU_call {w : Cond} {pre : List Cond} (h : ∀ x ∈ pre, x ∈ uU) (h' : w ∈ uU) : GoodIn uU (pre ++ (w :: uU)) := by
  intro x hx
  have hm : x ∈ uU := by
    rcases List.mem_append.mp hx with h1 | h1
    · exact h x h1
    · rcases List.mem_cons.mp h1 with h2 | h2
      · rw [h2]; exact h'
      · exact h2
  exact ⟨hm, good_of_word (uU_good hm)⟩
theorem uU_nil : ∀ x ∈ ([] : List Cond), x ∈ uU := fun _ h => nomatch h
theorem uU_cons {w : Cond} {pre : List Cond} (h : w ∈ uU) (t : ∀ x ∈ pre, x ∈ uU) : ∀ x ∈ w :: pre, x ∈ uU := fun x hx => (List.mem_cons.mp hx).elim (fun e => by rw [e]; exact h) (t x)
/-! worlds: the addresses L and what each holds, f -/
abbrev gG : Type := va_G × (Nat → ClassId)
abbrev wty (G : gG) : List (ClassId × FieldType) := [(G.2 0, .int), (G.2 1, .long), (G.2 2, .boolean), (G.2 3, .array .int), (G.2 4, .array .long)]
abbrev eI (G : gG) (n : Nat) (r : Nat → Int32) : va_E := .inl (G.2 0, n, .inl r)
abbrev eJ (G : gG) (n : Nat) (r : Nat → Int64) : va_E := .inl (G.2 1, n, .inr (.inl r))
abbrev eZ (G : gG) (n : Nat) (r : Nat → Int32) : va_E := .inl (G.2 2, n, .inl r)
abbrev eII (G : gG) (n : Nat) (r : Nat → Option Nat) : va_E := .inl (G.2 3, n, .inr (.inr (.inr (.inr r))))
abbrev eJJ (G : gG) (n : Nat) (r : Nat → Option Nat) : va_E := .inl (G.2 4, n, .inr (.inr (.inr (.inr r))))
abbrev eO (ci : Nat) (fs : List Value) : va_E := .inr (ci, fs)
def wH (G : gG) (A : Nat → Prop) (H0 : Heap) (s : State) (L : List Nat) (f : Nat → va_E) (H : Heap) (locs : List Loc) : Prop :=
  va_K G.1 vwCl (wty G) s ∧ va_P G.1 vwCl (va_pl L f) H ∧ va_D A (va_pl L f) ∧ va_S A H0 H locs ∧ ∀ q, H0.size ≤ q → A q
def wIn (G : gG) (av : List Value) (L : List Nat) (f : Nat → va_E) (sz : Nat) : Array Value → State → Prop :=
  va_Pc av (fun U => U.heap.size = sz ∧ va_P G.1 vwCl (va_pl L f) U.heap ∧ va_K G.1 vwCl (wty G) U ∧ va_D (fun _ => True) (va_pl L f))
def wAt (G : gG) (A : Nat → Prop) (L : List Nat) (g : Nat → va_E) (t : State) : Prop := va_P G.1 vwCl (va_pl L g) t.heap ∧ va_K G.1 vwCl (wty G) t ∧ va_D A (va_pl L g)
abbrev wA (L : List Nat) (f : Nat → va_E) (sz : Nat) : Nat → Prop := va_A (va_pl L f) sz
theorem va_up_eq {α : Type} (f : Nat → α) (k : Nat) (v : α) : va_up f k v k = v := by simp [va_up]
theorem wpl_get {L : List Nat} {f : Nat → va_E} {a : Nat} (h : a ∈ L) : ∃ k : Nat, (va_pl L f)[k]? = some (a, f a) := va_pl_get (X := []) h
theorem wpl_set {A : Nat → Prop} {L : List Nat} {f : Nat → va_E} {a k : Nat} {e : va_E} (hD : va_D A (va_pl L f)) (h : a ∈ L) (hk : (va_pl L f)[k]? = some (a, f a)) : (va_pl L f).set k (a, e) = va_pl L (va_up f a e) := va_pl_set (X := []) hD h hk
theorem wA_sub {G : gG} {A : Nat → Prop} {H0 : Heap} {s : State} {L : List Nat} {f : Nat → va_E} {H : Heap} {locs : List Loc} (hw : wH G A H0 s L f H locs) : ∀ q, wA L f H.size q → A q := by
  obtain ⟨-, -, hD, hS, hA⟩ := hw
  intro q hq
  rcases hq with ⟨k, e, hk⟩ | hq
  · exact hD.2 k _ hk
  · exact hA q (Nat.le_trans hS.1 hq)
def cX (p : Program) (s : State) (m : MethodId) (args : Array Value) (meth : Method) (c : Code) (cc : ByteArray) (ret : Option FieldType) (n : Nat) (own : String) : Prop :=
  p.tables.exec = Jvm.exec ∧ c.code = cc ∧ meth.sig.returnType = ret ∧ c.maxLocals = n ∧ s.vm.findClass own = some m.cls ∧ (∀ w ∈ uU, w.before args s = true) ∧ meth.locks = false
theorem cX.fix {p : Program} {s : State} {m : MethodId} {args : Array Value} {meth : Method} {c : Code} {cc : ByteArray} {ret : Option FieldType} {n : Nat} {own : String} (h : cX p s m args meth c cc ret n own) : CallFix p m c cc n s args uU own := ⟨h.1, h.2.1, h.2.2.2.1, h.2.2.2.2.1, h.2.2.2.2.2.1⟩
theorem wBlind {G : gG} {av : List Value} {L : List Nat} {f : Nat → va_E} {sz : Nat} : FrameBlind (wIn G av L f sz) := fun a U g mk q => by
  obtain ⟨q0, q1, qP, qK, qD⟩ := q
  exact ⟨q0, q1, qP, va_K.moved (u := U) (U := U.calling g mk a) (Vm.Alike.refl U.vm) qK, qD⟩
theorem wPre {G : gG} {A : Nat → Prop} {H0 : Heap} {s : State} {L : List Nat} {f : Nat → va_E} {H : Heap} {locs : List Loc} (hw : wH G A H0 s L f H locs) (av : List Value) : ∀ U : State, U.heap = H → s.WarmedH U.vm → wIn G av L f H.size av.toArray U := by
  obtain ⟨hK, hP, hD, -, -⟩ := hw
  intro U hU hW
  exact ⟨rfl, by rw [hU], by rw [hU]; exact hP, va_K.moved hW.alike hK, hD.weaken (fun _ _ _ _ => trivial)⟩
set_option maxHeartbeats 1000000 in
theorem wEnter {l : Launch} {y : MethodName} {rm : Room} {G : gG} {av : List Value} {L : List Nat} {f : Nat → va_E} {sz : Nat} {Qc : Array Value → State → Outcome → State → Prop} {mc ms : Nat} {cc : ByteArray} {n : Nat} {ret : Option FieldType}
    (hy : plainName y.cls = true) (hn : (lg_sl av).length ≤ n)
    (body : ∀ (p : Program) (e : Env) (s : State) (m : MethodId) (below : List Frame) (meth : Method) (c : Code) (ls : Array Slot), cX p s m av.toArray meth c cc ret n y.cls → (y.name = "<init>" → meth.name = "<init>") → lv_has ls n (lv_args 0 av) → s.heap.size = sz → wH G (wA L f sz) s.heap s L f s.heap [] →
      W p l e rm s m av.toArray below meth c s.heap [] 0 0 (MQ below Qc av.toArray s mc ms (wA L f sz)) (F0 m 0 ls [])) :
    Met l y (uW y cc n ret) rm (wIn G av L f sz) Qc mc ms (wA L f sz) := by
  refine Met.ofW (cc := cc) (maxL := n) (ret := ret) hy rfl ?_
  intro p e s m args below meth c s₁ B hml hv
  obtain ⟨rfl, hsz, hP, hK, hD0⟩ := hv
  have hts := atoms_spec (ws := uW y cc n ret) B.pre
  have hown : s.vm.findClass y.cls = some m.cls := findClass_of_methodNamed B.named
  have hl := lv_entry av (n := n) hn
  rw [lg_entry_eq]
  have hin : meth.name = y.name := (name_of_methodNamed B.named B.method).1
  exact body p e s m below meth c _ ⟨B.exec, B.bytes, B.returns, hml, hown, fun w h => hts w (List.mem_cons_of_mem _ h), B.notSynchronized⟩ (fun h => hin.trans h) hl hsz ⟨hK, hP, hD0.self, va_S.rf, fun q h => Or.inr (by rw [← hsz]; exact h)⟩
section WRows
variable {p : Program} {l : Launch} {e : Env} {R : Room} {s : State} {m : MethodId} {args : Array Value} {below : List Frame} {meth : Method} {c : Code} {H : Heap} {locs : List Loc} {cells slots : Nat} {Q : State → Prop}
variable {cc : ByteArray} {pc : Nat} {ls : Array Slot} {rest : List Value} {G : gG} {A : Nat → Prop} {a : Nat} {H0 : Heap} {L : List Nat} {f : Nat → va_E}
theorem w_lald (hx : p.tables.exec = Jvm.exec) (hb : c.code = cc) (hw : wH G A H0 s L f H locs) (hL : a ∈ L) {n : Nat} {r : Nat → Int64} (ha : f a = eJ G n r) {i : Int32} (hin : vp_in i n) (hdg : decode cc pc = .ok (.laload, 1))
    (kk : W p l e R s m args below meth c H locs cells slots Q (F0 m (pc + 1) ls (.long (r i.toNatClampNeg) :: rest))) : W p l e R s m args below meth c H locs cells slots Q (F0 m pc ls (.int i :: .ref a :: rest)) := by
  obtain ⟨k, hk⟩ := wpl_get (f := f) hL
  rw [ha] at hk
  exact va_lald hx hb hw.1 hw.2.1 k 1 hk rfl hin hdg kk
theorem w_iald (hx : p.tables.exec = Jvm.exec) (hb : c.code = cc) (hw : wH G A H0 s L f H locs) (hL : a ∈ L) {n : Nat} {r : Nat → Int32} (ha : f a = eI G n r) {i : Int32} (hin : vp_in i n) (hdg : decode cc pc = .ok (.iaload, 1))
    (kk : W p l e R s m args below meth c H locs cells slots Q (F0 m (pc + 1) ls (.int (r i.toNatClampNeg) :: rest))) : W p l e R s m args below meth c H locs cells slots Q (F0 m pc ls (.int i :: .ref a :: rest)) := by
  obtain ⟨k, hk⟩ := wpl_get (f := f) hL
  rw [ha] at hk
  exact va_iald hx hb hw.1 hw.2.1 k 0 hk rfl hin hdg kk
theorem w_aldq (hx : p.tables.exec = Jvm.exec) (hb : c.code = cc) (hw : wH G A H0 s L f H locs) (hL : a ∈ L) {n : Nat} {r : Nat → Option Nat} (ha : f a = eII G n r ∨ f a = eJJ G n r) {i : Int32} (hin : vp_in i n) (hdg : decode cc pc = .ok (.aaload, 1))
    (kk : W p l e R s m args below meth c H locs cells slots Q (F0 m (pc + 1) ls (va_rf (r i.toNatClampNeg) :: rest))) : W p l e R s m args below meth c H locs cells slots Q (F0 m pc ls (.int i :: .ref a :: rest)) := by
  obtain ⟨k, hk⟩ := wpl_get (f := f) hL
  have hlt : i.toNatClampNeg < n := Nat.not_le.mp fun q => hin (Or.inr q)
  rcases ha with ha | ha
  · rw [ha] at hk
    exact W.aald (v := va_rf (r i.toNatClampNeg)) (ty := .array .int) hx hb (hw.2.1 k _ hk) ((hw.1.2 3 _ rfl).1 n (fun j => va_rf (r j))) rfl (fun q => by cases q) (by show ¬ (i < 0 ∨ (arrV _ _ _).slots.size ≤ _); rw [arrV_size]; exact hin) (by show (arrV _ _ _).slots[_]? = _; rw [arrV_read _ _ hlt]) rfl rfl hdg kk
  · rw [ha] at hk
    exact W.aald (v := va_rf (r i.toNatClampNeg)) (ty := .array .long) hx hb (hw.2.1 k _ hk) ((hw.1.2 4 _ rfl).1 n (fun j => va_rf (r j))) rfl (fun q => by cases q) (by show ¬ (i < 0 ∨ (arrV _ _ _).slots.size ≤ _); rw [arrV_size]; exact hin) (by show (arrV _ _ _).slots[_]? = _; rw [arrV_read _ _ hlt]) rfl rfl hdg kk
theorem w_lenJ (hx : p.tables.exec = Jvm.exec) (hb : c.code = cc) (hw : wH G A H0 s L f H locs) (hL : a ∈ L) {n : Nat} {r : Nat → Int64} (ha : f a = eJ G n r) (hdg : decode cc pc = .ok (.arraylength, 1))
    (kk : W p l e R s m args below meth c H locs cells slots Q (F0 m (pc + 1) ls (.int (nI n) :: rest))) : W p l e R s m args below meth c H locs cells slots Q (F0 m pc ls (.ref a :: rest)) := by
  obtain ⟨k, hk⟩ := wpl_get (f := f) hL
  rw [ha] at hk
  exact va_alen hx hb hw.1 hw.2.1 k 1 hk rfl rfl hdg kk
theorem w_lenI (hx : p.tables.exec = Jvm.exec) (hb : c.code = cc) (hw : wH G A H0 s L f H locs) (hL : a ∈ L) {n : Nat} {r : Nat → Int32} (ha : f a = eI G n r) (hdg : decode cc pc = .ok (.arraylength, 1))
    (kk : W p l e R s m args below meth c H locs cells slots Q (F0 m (pc + 1) ls (.int (nI n) :: rest))) : W p l e R s m args below meth c H locs cells slots Q (F0 m pc ls (.ref a :: rest)) := by
  obtain ⟨k, hk⟩ := wpl_get (f := f) hL
  rw [ha] at hk
  exact va_alen hx hb hw.1 hw.2.1 k 0 hk rfl rfl hdg kk
theorem w_last (hx : p.tables.exec = Jvm.exec) (hb : c.code = cc) (hw : wH G A H0 s L f H locs) (hL : a ∈ L) {n : Nat} {r : Nat → Int64} (ha : f a = eJ G n r) {i : Int32} {x : Int64} (hin : vp_in i n) (hdg : decode cc pc = .ok (.lastore, 1))
    (kk : ∀ (H1 : Heap) (locs1 : List Loc), wH G A H0 s L (va_up f a (eJ G n (vp_updL r i.toNatClampNeg x))) H1 locs1 → W p l e R s m args below meth c H1 locs1 cells slots Q (F0 m (pc + 1) ls rest)) : W p l e R s m args below meth c H locs cells slots Q (F0 m pc ls (.long x :: .int i :: .ref a :: rest)) := by
  obtain ⟨k, hk⟩ := wpl_get (f := f) hL
  have hk2 := hk
  rw [ha] at hk2
  refine va_last hx hb hw.1 hw.2.1 hw.2.2.1 hw.2.2.2.1 k 1 hk2 rfl hin hdg (fun H1 locs1 h1 h2 h3 => ?_)
  rw [wpl_set hw.2.2.1 hL hk] at h1 h2
  exact kk H1 locs1 ⟨hw.1, h1, h2, h3, hw.2.2.2.2⟩
theorem w_iast (hx : p.tables.exec = Jvm.exec) (hb : c.code = cc) (hw : wH G A H0 s L f H locs) (hL : a ∈ L) {n : Nat} {r : Nat → Int32} (ha : f a = eI G n r) {i x : Int32} (hin : vp_in i n) (hdg : decode cc pc = .ok (.iastore, 1))
    (kk : ∀ (H1 : Heap) (locs1 : List Loc), wH G A H0 s L (va_up f a (eI G n (upd r i.toNatClampNeg x))) H1 locs1 → W p l e R s m args below meth c H1 locs1 cells slots Q (F0 m (pc + 1) ls rest)) : W p l e R s m args below meth c H locs cells slots Q (F0 m pc ls (.int x :: .int i :: .ref a :: rest)) := by
  obtain ⟨k, hk⟩ := wpl_get (f := f) hL
  have hk2 := hk
  rw [ha] at hk2
  refine va_iast hx hb hw.1 hw.2.1 hw.2.2.1 hw.2.2.2.1 k 0 hk2 rfl hin hdg (fun H1 locs1 h1 h2 h3 => ?_)
  rw [wpl_set hw.2.2.1 hL hk] at h1 h2
  exact kk H1 locs1 ⟨hw.1, h1, h2, h3, hw.2.2.2.2⟩
theorem w_get (hx : p.tables.exec = Jvm.exec) (hb : c.code = cc) {own ref C : String} {T : u_T} {N ci index : Nat} (hts : ∀ w ∈ uU, w.before args s = true) (hin : ∀ w ∈ u_ws C T N, w ∈ uU) (hown : s.vm.findClass own = some m.cls) (hw : wH G A H0 s L f H locs) (hL : a ∈ L) {fs : List Value} (ha : f a = eO ci fs) (hc : vwCl[ci]? = some (C, T, N)) (k : Nat) (hk : k < N) (hlink : Cond.fieldLink own index ref (T k).2.1 (T k).2.2.1 ∈ uU) (href : (T k).1 = ref) {v : Value} (hv : fs[k]? = some v) (hdg : decode cc pc = .ok (.getfield index, 3))
    (kk : W p l e R s m args below meth c H locs cells slots Q (F0 m (pc + 3) ls (v :: rest))) : W p l e R s m args below meth c H locs cells slots Q (F0 m pc ls (.ref a :: rest)) := by
  obtain ⟨k9, hk9⟩ := wpl_get (f := f) hL
  rw [ha] at hk9
  exact va_get hx hb hts hin hown hw.1 hw.2.1 k9 hk9 hc k hk (hts _ hlink) (fun x h => by rw [← href]; exact h) hv hdg kk
theorem w_put (hx : p.tables.exec = Jvm.exec) (hb : c.code = cc) {own ref C : String} {T : u_T} {N ci index : Nat} (hts : ∀ w ∈ uU, w.before args s = true) (hin : ∀ w ∈ u_ws C T N, w ∈ uU) (ty0 : Nat → FieldType) (hty : ∀ k, k < N → parseFieldDescriptor (T k).2.2.1 = some (ty0 k)) (hnm : ∀ a, a < N → ∀ b, b < N → a ≠ b → (T a).2.1 ≠ (T b).2.1) (hown : s.vm.findClass own = some m.cls) (hw : wH G A H0 s L f H locs) (hL : a ∈ L) {fs : List Value} (ha : f a = eO ci fs) (hc : vwCl[ci]? = some (C, T, N)) (k : Nat) (hk : k < N) (hlink : Cond.fieldLink own index ref (T k).2.1 (T k).2.2.1 ∈ uU) (href : (T k).1 = ref) (hfin : (T k).2.2.2 = false) {ty : FieldType} {v : Value} (hd : parseFieldDescriptor (T k).2.2.1 = some ty) (hn : narrow ty v = v) (hfit : fits ty v = true) (hl : k < fs.length) (hdg : decode cc pc = .ok (.putfield index, 3))
    (kk : ∀ (H1 : Heap) (locs1 : List Loc), wH G A H0 s L (va_up f a (eO ci (fs.set k v))) H1 locs1 → W p l e R s m args below meth c H1 locs1 cells slots Q (F0 m (pc + 3) ls rest)) : W p l e R s m args below meth c H locs cells slots Q (F0 m pc ls (v :: .ref a :: rest)) := by
  obtain ⟨k9, hk9⟩ := wpl_get (f := f) hL
  have hk2 := hk9
  rw [ha] at hk2
  refine va_put hx hb hts hin ty0 hty hnm hown hw.1 hw.2.1 hw.2.2.1 hw.2.2.2.1 k9 hk2 hc k hk (hts _ hlink) (fun x h => by rw [← href]; exact h) hfin hd hn hfit hl hdg (fun H1 locs1 h1 h2 h3 => ?_)
  rw [wpl_set hw.2.2.1 hL hk9] at h1 h2
  exact kk H1 locs1 ⟨hw.1, h1, h2, h3, hw.2.2.2.2⟩
/-! ends -/
theorem w_iret {S : Type} {post : Int32 → S → Prop} {lf : S → List Nat × (Nat → va_E)} (hx : p.tables.exec = Jvm.exec) (hb : c.code = cc) (hr : meth.sig.returnType = some .int) (hlocks : meth.locks = false) {v : Int32} (u : S) (hw : wH G A s.heap s (lf u).1 (lf u).2 H locs) (hp : post v u) (hdg : decode cc pc = .ok (.ireturn, 1)) :
    W p l e R s m args below meth c H locs cells slots (MQ below (va_Qi post (fun u => wAt G A (lf u).1 (lf u).2) A) args s cells slots A) (F0 m pc ls [.int v]) := by
  obtain ⟨hK, hP, hD, hS, -⟩ := hw
  exact W.iret (v := v) hx hb hr (fun t ht hW => ⟨⟨v, u, rfl, hp, by rw [ht]; exact hP, va_K.moved hW.alike hK, hD⟩, hS.F ht⟩) hS.2.2 hdg hlocks
theorem w_zret {S : Type} {post : Int32 → S → Prop} {lf : S → List Nat × (Nat → va_E)} (hx : p.tables.exec = Jvm.exec) (hb : c.code = cc) (hr : meth.sig.returnType = some .boolean) (hlocks : meth.locks = false) {v : Int32} (hv : narrow .boolean (.int v) = .int v) (u : S) (hw : wH G A s.heap s (lf u).1 (lf u).2 H locs) (hp : post v u) (hdg : decode cc pc = .ok (.ireturn, 1)) :
    W p l e R s m args below meth c H locs cells slots (MQ below (va_Qi post (fun u => wAt G A (lf u).1 (lf u).2) A) args s cells slots A) (F0 m pc ls [.int v]) := by
  obtain ⟨hK, hP, hD, hS, -⟩ := hw
  exact W.zret (v := v) hx hb hr hv (fun t ht hW => ⟨⟨v, u, rfl, hp, by rw [ht]; exact hP, va_K.moved hW.alike hK, hD⟩, hS.F ht⟩) hS.2.2 hdg hlocks
theorem w_lret {S : Type} {post : Int64 → S → Prop} {lf : S → List Nat × (Nat → va_E)} (hx : p.tables.exec = Jvm.exec) (hb : c.code = cc) (hr : meth.sig.returnType = some .long) (hlocks : meth.locks = false) {v : Int64} (u : S) (hw : wH G A s.heap s (lf u).1 (lf u).2 H locs) (hp : post v u) (hdg : decode cc pc = .ok (.lreturn, 1)) :
    W p l e R s m args below meth c H locs cells slots (MQ below (va_Ql post (fun u => wAt G A (lf u).1 (lf u).2) A) args s cells slots A) (F0 m pc ls [.long v]) := by
  obtain ⟨hK, hP, hD, hS, -⟩ := hw
  exact W.lret (v := v) hx hb hr (fun t ht hW => ⟨⟨v, u, rfl, hp, by rw [ht]; exact hP, va_K.moved hW.alike hK, hD⟩, hS.F ht⟩) hS.2.2 hdg hlocks
theorem w_vret {S : Type} {post : S → Prop} {lf : S → List Nat × (Nat → va_E)} (hx : p.tables.exec = Jvm.exec) (hb : c.code = cc) (hr : meth.sig.returnType = none) (hlocks : meth.locks = false) (u : S) (hw : wH G A s.heap s (lf u).1 (lf u).2 H locs) (hp : post u) (hdg : decode cc pc = .ok (.return_, 1)) :
    W p l e R s m args below meth c H locs cells slots (MQ below (va_Qv post (fun u => wAt G A (lf u).1 (lf u).2) A) args s cells slots A) (F0 m pc ls []) := by
  obtain ⟨hK, hP, hD, hS, -⟩ := hw
  exact W.vret hx hb hr (fun t ht hW => ⟨⟨u, rfl, hp, by rw [ht]; exact hP, va_K.moved hW.alike hK, hD⟩, hS.F ht⟩) hS.2.2 hdg hlocks
theorem w_back {u1 : List Nat} {u2 : Nat → va_E} {t : State} {H1 : Heap} {locs1 : List Loc} (hw : wH G A H0 s L f H locs) (ht : t.heap = H1) (hvm : s.vm.Alike t.vm) (hB : wAt G (wA L f H.size) u1 u2 t) (hS : va_S A H0 H1 locs1) : wH G A H0 s u1 u2 H1 locs1 := by
  obtain ⟨b1, b2, b3⟩ := hB
  rw [ht] at b1
  exact ⟨va_K.moved hvm.symm b2, b1, b3.weaken (fun _ _ _ h => wA_sub hw _ h), hS, hw.2.2.2.2⟩
end WRows
