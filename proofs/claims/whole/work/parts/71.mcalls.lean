abbrev mI (l : Launch) (y : MethodName) (bytes : ByteArray) (maxL : Nat) (ret : Option FieldType) (rm : Room) (G : gG) (adr : Nat → Nat) (av : List Value) (M : Mem) (sz : Nat) (r : Int32) (M' : Mem) : Prop :=
  Met l y (uW y bytes maxL ret) rm (wIn G av (LL adr) (wf G adr M) sz) (va_Qi (fun (r9 : Int32) (u : Mem) => r9 = r ∧ u = M') (fun u => wAt G (wA (LL adr) (wf G adr M) sz) (LL adr) (wf G adr u)) (wA (LL adr) (wf G adr M) sz)) 0 0 (wA (LL adr) (wf G adr M) sz)
abbrev mL (l : Launch) (y : MethodName) (bytes : ByteArray) (maxL : Nat) (ret : Option FieldType) (rm : Room) (G : gG) (adr : Nat → Nat) (av : List Value) (M : Mem) (sz : Nat) (r : Int64) (M' : Mem) : Prop :=
  Met l y (uW y bytes maxL ret) rm (wIn G av (LL adr) (wf G adr M) sz) (va_Ql (fun (r9 : Int64) (u : Mem) => r9 = r ∧ u = M') (fun u => wAt G (wA (LL adr) (wf G adr M) sz) (LL adr) (wf G adr u)) (wA (LL adr) (wf G adr M) sz)) 0 0 (wA (LL adr) (wf G adr M) sz)
abbrev mV (l : Launch) (y : MethodName) (bytes : ByteArray) (maxL : Nat) (ret : Option FieldType) (rm : Room) (G : gG) (adr : Nat → Nat) (av : List Value) (M : Mem) (sz : Nat) (M' : Mem) : Prop :=
  Met l y (uW y bytes maxL ret) rm (wIn G av (LL adr) (wf G adr M) sz) (va_Qv (fun (u : Mem) => u = M') (fun u => wAt G (wA (LL adr) (wf G adr M) sz) (LL adr) (wf G adr u)) (wA (LL adr) (wf G adr M) sz)) 0 0 (wA (LL adr) (wf G adr M) sz)
def bz (r : Int32) : Option Int32 := if r = 0 ∨ r = 1 then some r else none
theorem bz_ok {r v : Int32} (h : bz r = some v) : v = r ∧ narrow .boolean (.int r) = .int r := by
  obtain ⟨h1, rfl⟩ := ite_s h
  refine ⟨rfl, ?_⟩
  rcases h1 with rfl | rfl <;> rfl
def ptI (M : Mem) (k j : Nat) (x : Int32) : Option Mem := some (sI M k j x)
def ptJ (M : Mem) (k j : Nat) (x : Int64) : Option Mem := some (sJ M k j x)
theorem pt_s {M M' : Mem} (h : some M = some M') : M' = M := (Option.some.inj h).symm
theorem inc_p (x : Int32) {n : Int} {v : Int32} (h : Int32.ofInt n = v) : x + Int32.ofInt n = x + v := by rw [h]
theorem shr_p (x : Int64) {y : Int32} {v : Int64} (h : y.toInt64 &&& 63 = v) : x >>> (y.toInt64 &&& 63) = x >>> v := by rw [h]
theorem shl_p (x : Int64) {y : Int32} {v : Int64} (h : y.toInt64 &&& 63 = v) : x <<< (y.toInt64 &&& 63) = x <<< v := by rw [h]
theorem dvJ_ok {x y v : Int64} (h : dvJ x y = some v) : ¬ y = 0 ∧ x / y = v := ite_n h
theorem rmJ_ok {x y v : Int64} (h : rmJ x y = some v) : ¬ y = 0 ∧ x - x / y * y = v := ite_n h
theorem dvI_ok {x y v : Int32} (h : dvI x y = some v) : ¬ y = 0 ∧ x / y = v := ite_n h
theorem rmI_ok {x y v : Int32} (h : rmI x y = some v) : ¬ y = 0 ∧ x - x / y * y = v := ite_n h

section MCalls
variable {p : Program} {l : Launch} {e : Env} {R : Room} {s : State} {m : MethodId} {args : Array Value} {below : List Frame} {meth : Method} {c : Code} {H : Heap} {locs : List Loc} {Q : State → Prop}
variable {cc : ByteArray} {pc : Nat} {ls : Array Slot} {rest st0 : List Value} {G : gG} {A : Nat → Prop} {H0 : Heap} {adr : Nat → Nat} {M M' : Mem} {y : MethodName} {bytes : ByteArray} {maxL nL index : Nat} {ret : Option FieldType} {rm : Room} {own : String} {As : List Value}

theorem m_callSi (S9 : CallFix p m c cc nL s args uU own) (hw : wH G A H0 s (LL adr) (wf G adr M) H locs) {r : Int32} (hM : mI l y bytes maxL ret rm G adr As M H.size r M') (cw : CallB R s args own index y bytes maxL ret (uW y bytes maxL ret) rm 0 0 As.length ∧ (Cond.static y).before args s = true)
    (hsize : ls.size = nL) (hst : st0 = As.reverse ++ rest) (hroom : 2 * (F0 m pc ls st0).monitorRoom + (rest.map fun v => v.category).sum ≤ 8) (hdg : decode cc pc = .ok (.invokestatic index, 3))
    (kk : ∀ (H1 : Heap) (locs1 : List Loc), wH G A H0 s (LL adr) (wf G adr M') H1 locs1 → W p l e R s m args below meth c H1 locs1 0 0 Q (F0 m (pc + 3) ls (.int r :: rest))) : W p l e R s m args below meth c H locs 0 0 Q (F0 m pc ls st0) :=
  w_callSi (lf := fun u => (LL adr, wf G adr u)) S9 hw hM cw hsize hst hroom hdg ⟨Nat.zero_le _, Nat.zero_le _⟩ (fun r u H1 locs1 hp hw => by
    obtain ⟨rfl, rfl⟩ := hp
    exact kk H1 locs1 hw)
theorem m_callVi {k : Nat} (S9 : CallFix p m c cc nL s args uU own) (hi : adi adr) (hw : wH G A H0 s (LL adr) (wf G adr M) H locs) {r : Int32} (hM : mI l y bytes maxL ret rm G adr (.ref (adr k) :: As) M H.size r M') (hkd : kd k = 5) {q : vw_C} (hbc : vwCl[kn k]? = some q) (hq : q.1 = y.cls) (cw : CallW R s args own y.cls index y bytes maxL ret (uW y bytes maxL ret) rm 0 0 As.length)
    (hsize : ls.size = nL) (hst : st0 = As.reverse ++ .ref (adr k) :: rest) (hroom : 2 * (F0 m pc ls st0).monitorRoom + (rest.map fun v => v.category).sum ≤ 8) (hdg : decode cc pc = .ok (.invokevirtual index, 3))
    (kk : ∀ (H1 : Heap) (locs1 : List Loc), wH G A H0 s (LL adr) (wf G adr M') H1 locs1 → W p l e R s m args below meth c H1 locs1 0 0 Q (F0 m (pc + 3) ls (.int r :: rest))) : W p l e R s m args below meth c H locs 0 0 Q (F0 m pc ls st0) :=
  w_callVi (lf := fun u => (LL adr, wf G adr u)) S9 hw hM (LL_mem (kd_lt (by omega))) ((wf_adr hi M (kd_lt (by omega))).trans (ent_O hkd)) hbc hq cw hsize hst hroom hdg ⟨Nat.zero_le _, Nat.zero_le _⟩ (fun r u H1 locs1 hp hw => by
    obtain ⟨rfl, rfl⟩ := hp
    exact kk H1 locs1 hw)

theorem m_callSl (S9 : CallFix p m c cc nL s args uU own) (hw : wH G A H0 s (LL adr) (wf G adr M) H locs) {r : Int64} (hM : mL l y bytes maxL ret rm G adr As M H.size r M') (cw : CallB R s args own index y bytes maxL ret (uW y bytes maxL ret) rm 0 0 As.length ∧ (Cond.static y).before args s = true)
    (hsize : ls.size = nL) (hst : st0 = As.reverse ++ rest) (hroom : 2 * (F0 m pc ls st0).monitorRoom + (rest.map fun v => v.category).sum ≤ 8) (hdg : decode cc pc = .ok (.invokestatic index, 3))
    (kk : ∀ (H1 : Heap) (locs1 : List Loc), wH G A H0 s (LL adr) (wf G adr M') H1 locs1 → W p l e R s m args below meth c H1 locs1 0 0 Q (F0 m (pc + 3) ls (.long r :: rest))) : W p l e R s m args below meth c H locs 0 0 Q (F0 m pc ls st0) :=
  w_callSl (lf := fun u => (LL adr, wf G adr u)) S9 hw hM cw hsize hst hroom hdg ⟨Nat.zero_le _, Nat.zero_le _⟩ (fun r u H1 locs1 hp hw => by
    obtain ⟨rfl, rfl⟩ := hp
    exact kk H1 locs1 hw)
theorem m_callVl {k : Nat} (S9 : CallFix p m c cc nL s args uU own) (hi : adi adr) (hw : wH G A H0 s (LL adr) (wf G adr M) H locs) {r : Int64} (hM : mL l y bytes maxL ret rm G adr (.ref (adr k) :: As) M H.size r M') (hkd : kd k = 5) {q : vw_C} (hbc : vwCl[kn k]? = some q) (hq : q.1 = y.cls) (cw : CallW R s args own y.cls index y bytes maxL ret (uW y bytes maxL ret) rm 0 0 As.length)
    (hsize : ls.size = nL) (hst : st0 = As.reverse ++ .ref (adr k) :: rest) (hroom : 2 * (F0 m pc ls st0).monitorRoom + (rest.map fun v => v.category).sum ≤ 8) (hdg : decode cc pc = .ok (.invokevirtual index, 3))
    (kk : ∀ (H1 : Heap) (locs1 : List Loc), wH G A H0 s (LL adr) (wf G adr M') H1 locs1 → W p l e R s m args below meth c H1 locs1 0 0 Q (F0 m (pc + 3) ls (.long r :: rest))) : W p l e R s m args below meth c H locs 0 0 Q (F0 m pc ls st0) :=
  w_callVl (lf := fun u => (LL adr, wf G adr u)) S9 hw hM (LL_mem (kd_lt (by omega))) ((wf_adr hi M (kd_lt (by omega))).trans (ent_O hkd)) hbc hq cw hsize hst hroom hdg ⟨Nat.zero_le _, Nat.zero_le _⟩ (fun r u H1 locs1 hp hw => by
    obtain ⟨rfl, rfl⟩ := hp
    exact kk H1 locs1 hw)

theorem m_callSv (S9 : CallFix p m c cc nL s args uU own) (hw : wH G A H0 s (LL adr) (wf G adr M) H locs) (hM : mV l y bytes maxL ret rm G adr As M H.size M') (cw : CallB R s args own index y bytes maxL ret (uW y bytes maxL ret) rm 0 0 As.length ∧ (Cond.static y).before args s = true)
    (hsize : ls.size = nL) (hst : st0 = As.reverse ++ rest) (hroom : 2 * (F0 m pc ls st0).monitorRoom + (rest.map fun v => v.category).sum ≤ 8) (hdg : decode cc pc = .ok (.invokestatic index, 3))
    (kk : ∀ (H1 : Heap) (locs1 : List Loc), wH G A H0 s (LL adr) (wf G adr M') H1 locs1 → W p l e R s m args below meth c H1 locs1 0 0 Q (F0 m (pc + 3) ls rest)) : W p l e R s m args below meth c H locs 0 0 Q (F0 m pc ls st0) :=
  w_callSv (lf := fun u => (LL adr, wf G adr u)) S9 hw hM cw hsize hst hroom hdg ⟨Nat.zero_le _, Nat.zero_le _⟩ (fun u H1 locs1 hp hw => by
    subst hp
    exact kk H1 locs1 hw)
theorem m_callVv {k : Nat} (S9 : CallFix p m c cc nL s args uU own) (hi : adi adr) (hw : wH G A H0 s (LL adr) (wf G adr M) H locs) (hM : mV l y bytes maxL ret rm G adr (.ref (adr k) :: As) M H.size M') (hkd : kd k = 5) {q : vw_C} (hbc : vwCl[kn k]? = some q) (hq : q.1 = y.cls) (cw : CallW R s args own y.cls index y bytes maxL ret (uW y bytes maxL ret) rm 0 0 As.length)
    (hsize : ls.size = nL) (hst : st0 = As.reverse ++ .ref (adr k) :: rest) (hroom : 2 * (F0 m pc ls st0).monitorRoom + (rest.map fun v => v.category).sum ≤ 8) (hdg : decode cc pc = .ok (.invokevirtual index, 3))
    (kk : ∀ (H1 : Heap) (locs1 : List Loc), wH G A H0 s (LL adr) (wf G adr M') H1 locs1 → W p l e R s m args below meth c H1 locs1 0 0 Q (F0 m (pc + 3) ls rest)) : W p l e R s m args below meth c H locs 0 0 Q (F0 m pc ls st0) :=
  w_callVv (lf := fun u => (LL adr, wf G adr u)) S9 hw hM (LL_mem (kd_lt (by omega))) ((wf_adr hi M (kd_lt (by omega))).trans (ent_O hkd)) hbc hq cw hsize hst hroom hdg ⟨Nat.zero_le _, Nat.zero_le _⟩ (fun u H1 locs1 hp hw => by
    subst hp
    exact kk H1 locs1 hw)

end MCalls
