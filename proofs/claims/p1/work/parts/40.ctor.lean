/-- that arrays of arrays stand in the tables: a word that calls don't pass on by the list uU -/
def kX (U : State) : Prop := (Cond.arrayOver (.array .int)).before #[] U = true ∧ (Cond.arrayOver (.array .long)).before #[] U = true ∧ va_Nw (.methodLinkNest RX7 43 yX3_init RX7) U ∧ va_Nw (.methodLinkNest RX7 50 yX1_init RX7) U ∧ va_Nw (.methodLinkNest RX7 84 yX4_init RX7) U
theorem find_bare (vm : Vm) (P : Kind → Bool) : (vm.bare.classes.findIdx? fun (x : Class) => P x.kind) = (vm.classes.findIdx? fun (x : Class) => P x.kind) := by
  simp only [Vm.bare, Array.findIdx?_map]
  rfl
theorem find_kind {u U : State} (hvm : u.vm.Alike U.vm) (P : Kind → Bool) : (U.vm.classes.findIdx? fun (x : Class) => P x.kind) = (u.vm.classes.findIdx? fun (x : Class) => P x.kind) := by
  rw [← find_bare U.vm P, ← find_bare u.vm P]
  first | rw [hvm.bare_eq] | rw [← hvm.bare_eq]
theorem ao_moved {t : FieldType} {u U : State} (hvm : u.vm.Alike U.vm) (h : (Cond.arrayOver (.array t)).before #[] u = true) : (Cond.arrayOver (.array t)).before #[] U = true := by
  obtain ⟨comp, c, k, h1, h2, h3, h4, h5⟩ := arrayOverA_spec h
  obtain ⟨k', hk', he⟩ := hvm.2.2 _ _ h3
  have hi : (U.vm.classes.findIdx? fun (x : Class) => match x.kind with | .array component _ => component == comp | _ => false) = some c := (find_kind hvm (fun k => match k with | .array component _ => component == comp | _ => false)).trans h2
  have hkind : k'.kind = .array comp (.array t) := by rw [he]; exact h4
  have f1 : U.vm.findClass (FieldType.array t).toString = some comp := by rw [hvm.findClass]; exact h1
  have f2 : U.vm.findClass ("[" ++ (FieldType.array t).toString) = some c := by rw [hvm.findClass]; exact h5
  unfold Cond.before Cond.holds
  simp only [Cond.value]
  rw [f1, Option.bind_some]
  refine (congrArg (fun o : Option Nat => (o.bind (fun c => (U.vm.classes[c]?).map fun (k : Class) => match k.kind with | .array _ ty => decide (ty = FieldType.array t) && decide (U.vm.findClass ("[" ++ (FieldType.array t).toString) = some c) | _ => false) == some true)) hi).trans ?_
  simp [hk', hkind, f2]
theorem kX.warm {s U : State} (hW : s.WarmedH U.vm) (h : kX s) : kX U := ⟨ao_moved hW.alike h.1, ao_moved hW.alike h.2.1, va_Nw.warmM hW h.2.2.1, va_Nw.warmM hW h.2.2.2.1, va_Nw.warmM hW h.2.2.2.2⟩
theorem kX.same {u U : State} (hv : u.vm = U.vm) (h : kX u) : kX U := ⟨ao_moved (by rw [hv]; exact Vm.Alike.refl _) h.1, ao_moved (by rw [hv]; exact Vm.Alike.refl _) h.2.1, va_Nw.same rfl hv h.2.2.1, va_Nw.same rfl hv h.2.2.2.1, va_Nw.same rfl hv h.2.2.2.2⟩
def wInK (G : gG) (av : List Value) (L : List Nat) (f : Nat → va_E) (sz : Nat) : Array Value → State → Prop :=
  va_Pc av (fun U => U.heap.size = sz ∧ va_P G.1 vwCl (va_pl L f) U.heap ∧ va_K G.1 vwCl (wty G) U ∧ va_D (fun _ => True) (va_pl L f) ∧ kX U)
theorem kBlind {G : gG} {av : List Value} {L : List Nat} {f : Nat → va_E} {sz : Nat} : FrameBlind (wInK G av L f sz) := fun a U g mk q => by
  obtain ⟨q0, q1, qP, qK, qD, qk⟩ := q
  exact ⟨q0, q1, qP, va_K.moved (u := U) (U := U.calling g mk a) (Vm.Alike.refl U.vm) qK, qD, kX.same (u := U) (U := U.calling g mk a) rfl qk⟩
theorem kPre {G : gG} {A : Nat → Prop} {s : State} {L : List Nat} {f : Nat → va_E} {H H0 : Heap} {locs : List Loc} (hk : kX s) (hw : wH G A H0 s L f H locs) (av : List Value) : ∀ U : State, U.heap = H → s.WarmedH U.vm → wInK G av L f H.size av.toArray U := by
  intro U hU hW
  obtain ⟨-, q1, q2, q3, q4⟩ := wPre hw av U hU hW
  exact ⟨rfl, q1, q2, q3, q4, hk.warm hW⟩
set_option maxHeartbeats 1000000 in
theorem kEnter {l : Launch} {y : MethodName} {rm : Room} {G : gG} {av : List Value} {L : List Nat} {f : Nat → va_E} {sz : Nat} {Qc : Array Value → State → Outcome → State → Prop} {mc ms : Nat} {cc : ByteArray} {n : Nat}
    (hy : plainName y.cls = true) (hyn : y.name = "<init>") (hn : (lg_sl av).length ≤ n)
    (body : ∀ (p : Program) (e : Env) (s : State) (m : MethodId) (below : List Frame) (meth : Method) (c : Code) (ls : Array Slot), cX p s m av.toArray meth c cc none n y.cls → meth.name = "<init>" → lv_has ls n (lv_args 0 av) → wH G (wA L f sz) s.heap s L f s.heap [] → kX s →
      W p l e rm s m av.toArray below meth c s.heap [] 0 0 (MQ below Qc av.toArray s mc ms (wA L f sz)) (F0 m 0 ls [])) :
    Met l y (uW y cc n none) rm (wInK G av L f sz) Qc mc ms (wA L f sz) := by
  refine Met.ofW (cc := cc) (maxL := n) (ret := none) hy rfl ?_
  intro p e s m args below meth c s₁ B hml hv
  obtain ⟨rfl, hsz, hP, hK, hD0, hk⟩ := hv
  have hts := atoms_spec (ws := uW y cc n none) B.pre
  have hown : s.vm.findClass y.cls = some m.cls := findClass_of_methodNamed B.named
  have hl := lv_entry av (n := n) hn
  rw [lg_entry_eq]
  have hin : meth.name = y.name := (name_of_methodNamed B.named B.method).1
  exact body p e s m below meth c _ ⟨B.exec, B.bytes, B.returns, hml, hown, fun w h => hts w (List.mem_cons_of_mem _ h), B.notSynchronized⟩ (hin.trans hyn) hl ⟨hK, hP, hD0.self, va_S.rf, fun q h => Or.inr (by rw [← hsz]; exact h)⟩ hk
theorem pl_fresh {A : Nat → Prop} {L : List Nat} {f : Nat → va_E} {q : Nat} {e : va_E} (hD : va_D A (va_pl L f ++ [(q, e)])) : q ∉ L := by
  intro hq
  obtain ⟨k, hk⟩ := wpl_get (f := f) hq
  have hlt : k < (va_pl L f).length := (List.getElem?_eq_some_iff.mp hk).1
  have h1 : (va_pl L f ++ [(q, e)])[k]? = some (q, f q) := by rw [List.getElem?_append_left hlt]; exact hk
  have h2 : (va_pl L f ++ [(q, e)])[(va_pl L f).length]? = some (q, e) := by rw [List.getElem?_append_right (Nat.le_refl _), Nat.sub_self]; rfl
  have := hD.1 _ _ _ _ h1 h2 rfl
  omega
section KRows
variable {p : Program} {l : Launch} {e : Env} {R : Room} {s : State} {m : MethodId} {args : Array Value} {below : List Frame} {meth : Method} {c : Code} {H : Heap} {locs : List Loc} {cells slots : Nat} {Q : State → Prop}
variable {cc : ByteArray} {pc : Nat} {ls : Array Slot} {rest st0 : List Value} {G : gG} {A : Nat → Prop} {H0 : Heap} {L : List Nat} {f : Nat → va_E}
theorem k_newJ (hx : p.tables.exec = Jvm.exec) (hb : c.code = cc) (hts : ∀ w ∈ uU, w.before args s = true) (harr : Cond.arrayClass .long ∈ uU) (hw : wH G A H0 s L f H locs) (n : Nat) (hn : n < 2 ^ 20) (hcells : cells + 1 ≤ R.cells) (hslots : slots + n ≤ R.slots) (hdg : decode cc pc = .ok (.newarray .long, 2))
    (kk : ∀ (q : Nat) (H1 : Heap), q ∉ L → wH G A H0 s (L ++ [q]) (va_up f q (eJ G n (fun _ => 0))) H1 locs → W p l e R s m args below meth c H1 locs (cells + 1) (slots + n) Q (F0 m (pc + 2) ls (.ref q :: rest))) : W p l e R s m args below meth c H locs cells slots Q (F0 m pc ls (.int (nI n) :: rest)) := by
  refine va_newa (atype := .long) (ty := .long) (a0 := (n, .inr (.inl (fun _ => 0)))) hx hb (hts _ harr) rfl hw.1 hw.2.1 hw.2.2.1 hw.2.2.2.1 hw.2.2.2.2 (fun _ => rfl) (nI_pos (by omega)) (nI_clamp (by omega)) (by show n * 8 ≤ 536870912; omega) hcells hslots hdg (fun q cA H1 hK hP hD hS => ?_)
  have h1 := (hK.2 5 _ rfl).2
  have h2 := (hw.1.2 1 _ rfl).2
  have e1 : some cA = some (G.2 1) := Eq.trans (Eq.symm h1) h2
  cases e1
  have hq := pl_fresh hD
  rw [va_pl_push hq] at hP hD
  exact kk q H1 hq ⟨hw.1, hP, hD, hS, hw.2.2.2.2⟩
theorem k_newI (hx : p.tables.exec = Jvm.exec) (hb : c.code = cc) (hts : ∀ w ∈ uU, w.before args s = true) (harr : Cond.arrayClass .int ∈ uU) (hw : wH G A H0 s L f H locs) (n : Nat) (hn : n < 2 ^ 20) (hcells : cells + 1 ≤ R.cells) (hslots : slots + n ≤ R.slots) (hdg : decode cc pc = .ok (.newarray .int, 2))
    (kk : ∀ (q : Nat) (H1 : Heap), q ∉ L → wH G A H0 s (L ++ [q]) (va_up f q (eI G n (fun _ => 0))) H1 locs → W p l e R s m args below meth c H1 locs (cells + 1) (slots + n) Q (F0 m (pc + 2) ls (.ref q :: rest))) : W p l e R s m args below meth c H locs cells slots Q (F0 m pc ls (.int (nI n) :: rest)) := by
  refine va_newa (atype := .int) (ty := .int) (a0 := (n, .inl (fun _ => 0))) hx hb (hts _ harr) rfl hw.1 hw.2.1 hw.2.2.1 hw.2.2.2.1 hw.2.2.2.2 (fun _ => rfl) (nI_pos (by omega)) (nI_clamp (by omega)) (by show n * 4 ≤ 536870912; omega) hcells hslots hdg (fun q cA H1 hK hP hD hS => ?_)
  have h1 := (hK.2 5 _ rfl).2
  have h2 := (hw.1.2 0 _ rfl).2
  have e1 : some cA = some (G.2 0) := Eq.trans (Eq.symm h1) h2
  cases e1
  have hq := pl_fresh hD
  rw [va_pl_push hq] at hP hD
  exact kk q H1 hq ⟨hw.1, hP, hD, hS, hw.2.2.2.2⟩
theorem k_newZ (hx : p.tables.exec = Jvm.exec) (hb : c.code = cc) (hts : ∀ w ∈ uU, w.before args s = true) (harr : Cond.arrayClass .boolean ∈ uU) (hw : wH G A H0 s L f H locs) (n : Nat) (hn : n < 2 ^ 20) (hcells : cells + 1 ≤ R.cells) (hslots : slots + n ≤ R.slots) (hdg : decode cc pc = .ok (.newarray .boolean, 2))
    (kk : ∀ (q : Nat) (H1 : Heap), q ∉ L → wH G A H0 s (L ++ [q]) (va_up f q (eZ G n (fun _ => 0))) H1 locs → W p l e R s m args below meth c H1 locs (cells + 1) (slots + n) Q (F0 m (pc + 2) ls (.ref q :: rest))) : W p l e R s m args below meth c H locs cells slots Q (F0 m pc ls (.int (nI n) :: rest)) := by
  refine va_newa (atype := .boolean) (ty := .boolean) (a0 := (n, .inl (fun _ => 0))) hx hb (hts _ harr) rfl hw.1 hw.2.1 hw.2.2.1 hw.2.2.2.1 hw.2.2.2.2 (fun _ => rfl) (nI_pos (by omega)) (nI_clamp (by omega)) (by show n * 1 ≤ 536870912; omega) hcells hslots hdg (fun q cA H1 hK hP hD hS => ?_)
  have h1 := (hK.2 5 _ rfl).2
  have h2 := (hw.1.2 2 _ rfl).2
  have e1 : some cA = some (G.2 2) := Eq.trans (Eq.symm h1) h2
  cases e1
  have hq := pl_fresh hD
  rw [va_pl_push hq] at hP hD
  exact kk q H1 hq ⟨hw.1, hP, hD, hS, hw.2.2.2.2⟩
theorem k_new (hx : p.tables.exec = Jvm.exec) (hb : c.code = cc) {own C : String} {T : u_T} {N ci index : Nat} (hts : ∀ w ∈ uU, w.before args s = true) (hin : ∀ w ∈ u_ws C T N, w ∈ uU) (ty : Nat → FieldType) (hty : ∀ k, k < N → parseFieldDescriptor (T k).2.2.1 = some (ty k)) (hown : s.vm.findClass own = some m.cls) (hcl : Cond.classLink own index C ∈ uU) (hinst : Cond.instantiable C N ∈ uU) (hini : Cond.initialized C ∈ uU)
    (hw : wH G A H0 s L f H locs) (hc : vwCl[ci]? = some (C, T, N)) (fs : List Value) (hfs : ∀ j, j < N → defaultValue (ty j) = vp_V fs j) (hcells : cells + 1 ≤ R.cells) (hslots : slots + N ≤ R.slots) (hdg : decode cc pc = .ok (.new index, 3))
    (kk : ∀ (q : Nat) (H1 : Heap), q ∉ L → wH G A H0 s (L ++ [q]) (va_up f q (eO ci fs)) H1 locs → W p l e R s m args below meth c H1 locs (cells + 1) (slots + N) Q (F0 m (pc + 3) ls (.ref q :: rest))) : W p l e R s m args below meth c H locs cells slots Q (F0 m pc ls rest) := by
  refine va_new (fs := fs) hx hb hts hin ty hty hown (hts _ hcl) (hts _ hinst) (hts _ hini) hw.1 hw.2.1 hw.2.2.1 hw.2.2.2.1 hw.2.2.2.2 hc hfs hcells hslots hdg (fun q H1 hP hD hS => ?_)
  have hq := pl_fresh hD
  rw [va_pl_push hq] at hP hD
  exact kk q H1 hq ⟨hw.1, hP, hD, hS, hw.2.2.2.2⟩
theorem k_putF (hx : p.tables.exec = Jvm.exec) (hb : c.code = cc) {own C : String} {T : u_T} {N ci index a : Nat} (hts : ∀ w ∈ uU, w.before args s = true) (hin : ∀ w ∈ u_ws C T N, w ∈ uU) (ty0 : Nat → FieldType) (hty : ∀ k, k < N → parseFieldDescriptor (T k).2.2.1 = some (ty0 k)) (hnm : ∀ a, a < N → ∀ b, b < N → a ≠ b → (T a).2.1 ≠ (T b).2.1) (hown : s.vm.findClass own = some m.cls) (hw : wH G A H0 s L f H locs) (hL : a ∈ L) {fs : List Value} (ha : f a = eO ci fs) (hc : vwCl[ci]? = some (C, T, N)) (k : Nat) (hk : k < N) (hlink : Cond.fieldLink own index own (T k).2.1 (T k).2.2.1 ∈ uU) (href : (T k).1 = own) (hfin : (T k).2.2.2 = true) (hin2 : meth.name = "<init>") {ty : FieldType} {v : Value} (hd : parseFieldDescriptor (T k).2.2.1 = some ty) (hn : narrow ty v = v) (hfit : fits ty v = true) (hl : k < fs.length) (hdg : decode cc pc = .ok (.putfield index, 3))
    (kk : ∀ (H1 : Heap) (locs1 : List Loc), wH G A H0 s L (va_up f a (eO ci (fs.set k v))) H1 locs1 → W p l e R s m args below meth c H1 locs1 cells slots Q (F0 m (pc + 3) ls rest)) : W p l e R s m args below meth c H locs cells slots Q (F0 m pc ls (v :: .ref a :: rest)) := by
  obtain ⟨k9, hk9⟩ := wpl_get (f := f) hL
  have hk2 := hk9
  rw [ha] at hk2
  refine va_putF hx hb hts hin ty0 hty hnm hown hw.1 hw.2.1 hw.2.2.1 hw.2.2.2.1 k9 hk2 hc k hk (hts _ hlink) (fun x h => by rw [← href]; exact h) hfin hin2 href hd hn hfit hl hdg (fun H1 locs1 h1 h2 h3 => ?_)
  rw [wpl_set hw.2.2.1 hL hk9] at h1 h2
  exact kk H1 locs1 ⟨hw.1, h1, h2, h3, hw.2.2.2.2⟩
theorem k_mna (hx : p.tables.exec = Jvm.exec) (hb : c.code = cc) {own : String} {index : Nat} (hts : ∀ w ∈ uU, w.before args s = true) (hown : s.vm.findClass own = some m.cls) (hk : kX s) (ty : FieldType) (i0 i1 : Nat) (hty : (ty = .int ∧ i0 = 0 ∧ i1 = 3) ∨ (ty = .long ∧ i0 = 1 ∧ i1 = 4)) (z : vp_A) (N M : Nat) (hz : ∀ c : ClassId, Jvm.Free.Multi.innerC c M (defaultValue ty) = vp_cell c z) (hcl : Cond.classLink own index ("[" ++ (FieldType.array ty).toString) ∈ uU) (harr : Cond.arrayClass ty ∈ uU)
    (hw : wH G A H0 s L f H locs) (hN : N < 2 ^ 20) (hM : M < 2 ^ 20) (hcells : cells + (1 + N) ≤ R.cells) (hslots : slots + (N + N * M) ≤ R.slots) (hdg : decode cc pc = .ok (.multianewarray index 2, 4))
    (kk : ∀ (q : Nat) (r : Nat → Nat) (H1 : Heap), q ∉ L → (∀ i, i < N → r i ∉ L ∧ r i ≠ q) → wH G A H0 s (q :: (L ++ (List.range N).map r)) (va_up (vr_up f ((List.range N).map r) (.inl (G.2 i0, z))) q (.inl (G.2 i1, N, .inr (.inr (.inr (.inr (fun i => if i < N then some (r i) else none))))))) H1 locs →
      W p l e R s m args below meth c H1 locs (cells + 1 + N) (slots + N + N * M) Q (F0 m (pc + 4) ls (.ref q :: rest))) : W p l e R s m args below meth c H locs cells slots Q (F0 m pc ls (.int (nI M) :: .int (nI N) :: rest)) := by
  have hov : (Cond.arrayOver (.array ty)).before args s = true := by
    rcases hty with ⟨rfl, -, -⟩ | ⟨rfl, -, -⟩
    · exact hk.1
    · exact hk.2.1
  have hcy : s.vm.findClass (FieldType.array ty).toString = some (G.2 i0) := by
    rcases hty with ⟨rfl, rfl, -⟩ | ⟨rfl, rfl, -⟩
    · exact (hw.1.2 0 _ rfl).2
    · exact (hw.1.2 1 _ rfl).2
  have hby : componentBytes ty ≤ 8 ∧ fits ty (defaultValue ty) = true ∧ (defaultValue ty).isDefault = true := by
    rcases hty with ⟨rfl, -, -⟩ | ⟨rfl, -, -⟩ <;> decide
  have hMb : M * componentBytes ty ≤ M * 8 := Nat.mul_le_mul_left M hby.1
  refine va_mna (X := []) (z := z) (cy := G.2 i0) hx hb hown (hts _ hcl) hov (hts _ harr) hcy hw.1 hw.2.1 hw.2.2.1 hw.2.2.2.1 hw.2.2.2.2 (nI_pos (by omega)) (nI_pos (by omega)) (nI_clamp (by omega)) (nI_clamp (by omega)) (by omega) (by omega) (by omega) hby.2.1 hby.2.2 hcells hslots hz hdg (fun q r cA H1 hinj hfr hK hP hD hS => ?_)
  have h1 := (hK.2 5 _ rfl).2
  have e1 : some cA = some (G.2 i1) := by
    rcases hty with ⟨rfl, -, rfl⟩ | ⟨rfl, -, rfl⟩
    · exact Eq.trans (Eq.symm h1) (hw.1.2 3 _ rfl).2
    · exact Eq.trans (Eq.symm h1) (hw.1.2 4 _ rfl).2
  cases e1
  have hP2 : va_P G.1 vwCl ((q, .inl (G.2 i1, N, .inr (.inr (.inr (.inr (fun i => if i < N then some (r i) else none)))))) :: va_pl (L ++ (List.range N).map r) (vr_up f ((List.range N).map r) (.inl (G.2 i0, z)))) H1 := hP
  have hD2 : va_D A ((q, .inl (G.2 i1, N, .inr (.inr (.inr (.inr (fun i => if i < N then some (r i) else none)))))) :: va_pl (L ++ (List.range N).map r) (vr_up f ((List.range N).map r) (.inl (G.2 i0, z)))) := hD
  have hq : q ∉ L ++ (List.range N).map r := by
    intro h
    obtain ⟨k9, hk9⟩ := wpl_get (f := vr_up f ((List.range N).map r) (.inl (G.2 i0, z))) h
    have := hD2.1 0 (k9 + 1) _ _ rfl hk9 rfl
    omega
  have e2 : ((q, .inl (G.2 i1, N, .inr (.inr (.inr (.inr (fun i => if i < N then some (r i) else none)))))) :: va_pl (L ++ (List.range N).map r) (vr_up f ((List.range N).map r) (.inl (G.2 i0, z))) : va_W) = va_pl (q :: (L ++ (List.range N).map r)) (va_up (vr_up f ((List.range N).map r) (.inl (G.2 i0, z))) q (.inl (G.2 i1, N, .inr (.inr (.inr (.inr (fun i => if i < N then some (r i) else none))))))) := by
    unfold va_pl
    rw [List.map_cons, va_up_eq]
    congr 1
    apply List.map_congr_left
    intro a ha
    rw [va_up_ne _ _ (fun h => hq (by rw [← h]; exact ha))]
  rw [e2] at hP2 hD2
  exact kk q r H1 (fun h => hq (List.mem_append_left _ h)) (fun i hi => ⟨hfr i hi, fun h => hq (List.mem_append_right _ (by rw [← h]; exact List.mem_map.mpr ⟨i, List.mem_range.mpr hi, rfl⟩))⟩) ⟨hw.1, hP2, hD2, hS, hw.2.2.2.2⟩
theorem k_cI {y : MethodName} {bytes : ByteArray} {maxL mc ms index : Nat} {rm : Room} {own : String} (n : Nat) (hts : ∀ w ∈ uU, w.before args s = true) (h1 : Cond.methodLink own index y ∈ uU) (h2 : Cond.instanceMethod y ∈ uU) (h5 : Cond.initialized y.cls ∈ uU) (h4 : Cond.code y bytes maxL none ∈ uU) (hrc : rm.cells = mc) (hrs : rm.slots = ms) (hyn : y.name = "<init>")
    (hd : y.cls ≠ "java/lang/invoke/MethodHandle" ∧ y.cls ≠ "java/lang/invoke/VarHandle" ∧ (parseMethodDescriptor y.desc).map (fun d => d.parameters.length) = some n) (hR : rm.frames + 1 ≤ R.frames ∧ 8 + (maxL + 11) + rm.locals ≤ R.locals) :
    CallB R s args own index y bytes maxL none (uW y bytes maxL none) rm mc ms n ∧ y.name = "<init>" ∧ (Cond.instanceMethod y).before args s = true :=
  cwI n hts (uU_call (pre := []) uU_nil h4) rfl hrc hrs (hts _ h5) (hts _ h1) (hts _ h2) hyn hd hR
theorem k_callI {y : MethodName} {bytes : ByteArray} {maxL nL mc ms index : Nat} {rm : Room} {own : String} {As : List Value} {post : List Nat × (Nat → va_E) → Prop} {b : Nat} (S9 : CallFix p m c cc nL s args uU own) (hk : kX s) (hw : wH G A H0 s L f H locs)
    (hM : Met l y (uW y bytes maxL none) rm (wInK G (.ref b :: As) L f H.size) (va_Qv post (fun u => wAt G (wA L f H.size) u.1 u.2) (wA L f H.size)) mc ms (wA L f H.size)) (cw : CallB R s args own index y bytes maxL none (uW y bytes maxL none) rm mc ms As.length ∧ y.name = "<init>" ∧ (Cond.instanceMethod y).before args s = true)
    (hsize : ls.size = nL) (hst : st0 = As.reverse ++ .ref b :: rest) (hroom : 2 * (F0 m pc ls st0).monitorRoom + (rest.map fun v => v.category).sum ≤ 8) (hdg : decode cc pc = .ok (.invokespecial index, 3)) (hf : cells + mc ≤ R.cells ∧ slots + ms ≤ R.slots)
    (kk : ∀ (u : List Nat × (Nat → va_E)) (H1 : Heap) (locs1 : List Loc), post u → wH G A H0 s u.1 u.2 H1 locs1 → W p l e R s m args below meth c H1 locs1 (cells + mc) (slots + ms) Q (F0 m (pc + 3) ls rest)) : W p l e R s m args below meth c H locs cells slots Q (F0 m pc ls st0) := by
  refine va_callv (va_runI (As := As) (rest := rest) S9 hM cw ⟨kBlind, kPre hk hw _⟩ rfl rfl hsize hst hroom hdg hf) hw.2.2.2.1 (fun q _ h => wA_sub hw q h) (wA_sub hw) (fun u t H1 locs1 ht hvm hp hB _ _ hS => ?_)
  exact kk u H1 locs1 hp (w_back hw ht hvm hB hS)
theorem k_callIN {y : MethodName} {bytes : ByteArray} {maxL nL mc ms index : Nat} {rm : Room} {own host : String} {As : List Value} {post : List Nat × (Nat → va_E) → Prop} {b : Nat} (S9 : CallFix p m c cc nL s args uU own) (hk : kX s) (hw : wH G A H0 s L f H locs)
    (hM : Met l y (uW y bytes maxL none) rm (wInK G (.ref b :: As) L f H.size) (va_Qv post (fun u => wAt G (wA L f H.size) u.1 u.2) (wA L f H.size)) mc ms (wA L f H.size)) (cw : va_CN R s args own index y host bytes maxL none (uW y bytes maxL none) rm mc ms As.length ∧ y.name = "<init>" ∧ (Cond.instanceMethod y).before args s = true)
    (hsize : ls.size = nL) (hst : st0 = As.reverse ++ .ref b :: rest) (hroom : 2 * (F0 m pc ls st0).monitorRoom + (rest.map fun v => v.category).sum ≤ 8) (hdg : decode cc pc = .ok (.invokespecial index, 3)) (hf : cells + mc ≤ R.cells ∧ slots + ms ≤ R.slots)
    (kk : ∀ (u : List Nat × (Nat → va_E)) (H1 : Heap) (locs1 : List Loc), post u → wH G A H0 s u.1 u.2 H1 locs1 → W p l e R s m args below meth c H1 locs1 (cells + mc) (slots + ms) Q (F0 m (pc + 3) ls rest)) : W p l e R s m args below meth c H locs cells slots Q (F0 m pc ls st0) := by
  refine va_callv (va_runIN (As := As) (rest := rest) S9 hM cw ⟨kBlind, kPre hk hw _⟩ rfl rfl hsize hst hroom hdg hf) hw.2.2.2.1 (fun q _ h => wA_sub hw q h) (wA_sub hw) (fun u t H1 locs1 ht hvm hp hB _ _ hS => ?_)
  exact kk u H1 locs1 hp (w_back hw ht hvm hB hS)
theorem k_cIN {y : MethodName} {bytes : ByteArray} {maxL mc ms index : Nat} {rm : Room} {own host : String} (n : Nat) (hts : ∀ w ∈ uU, w.before args s = true) (h1 : va_Nw (.methodLinkNest own index y host) s) (h2 : Cond.instanceMethod y ∈ uU) (h5 : Cond.initialized y.cls ∈ uU) (h4 : Cond.code y bytes maxL none ∈ uU) (hrc : rm.cells = mc) (hrs : rm.slots = ms) (hyn : y.name = "<init>")
    (hd : y.cls ≠ "java/lang/invoke/MethodHandle" ∧ y.cls ≠ "java/lang/invoke/VarHandle" ∧ (parseMethodDescriptor y.desc).map (fun d => d.parameters.length) = some n) (hR : rm.frames + 1 ≤ R.frames ∧ 8 + (maxL + 11) + rm.locals ≤ R.locals) :
    va_CN R s args own index y host bytes maxL none (uW y bytes maxL none) rm mc ms n ∧ y.name = "<init>" ∧ (Cond.instanceMethod y).before args s = true :=
  ⟨va_cnB n hts (uU_call (pre := []) uU_nil h4) rfl hrc hrs h1 (hts _ h5) hd hR, hyn, hts _ h2⟩
end KRows
/-- behind a constructor of x: nothing that was there is changed but x -/
def kP (L : List Nat) (f : Nat → va_E) (x ci N : Nat) (u : List Nat × (Nat → va_E)) : Prop := (∀ q ∈ L, q ∈ u.1) ∧ (∀ q ∈ L, q ≠ x → u.2 q = f q) ∧ ∃ fs : List Value, u.2 x = eO ci fs ∧ fs.length = N
