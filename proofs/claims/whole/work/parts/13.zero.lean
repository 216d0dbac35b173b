theorem u_3 : Cond.methodLink RX5 9 arraycopyName ∈ uU := uU_in (by decide +kernel) (by decide +kernel)
theorem u_4 : Cond.native arraycopyName ∈ uU := uU_in (by decide +kernel) (by decide +kernel)
theorem u_5 : Cond.static arraycopyName ∈ uU := uU_in (by decide +kernel) (by decide +kernel)
theorem u_6 : Cond.initialized "java/lang/System" ∈ uU := uU_in (by decide +kernel) (by decide +kernel)
section WCopy
variable {p : Program} {l : Launch} {e : Env} {R : Room} {s : State} {m : MethodId} {args : Array Value} {below : List Frame} {meth : Method} {c : Code} {H : Heap} {locs : List Loc} {cells slots : Nat} {Q : State → Prop}
variable {cc : ByteArray} {pc : Nat} {ls : Array Slot} {rest : List Value} {G : gG} {A : Nat → Prop} {a : Nat} {H0 : Heap} {L : List Nat} {f : Nat → va_E}
theorem prL_cpy (r0 r1 : Nat → Int64) (n : Nat) : va_cpy r0 r1 0 0 n = prL r0 r1 n := by
  funext j
  by_cases h : j < n
  · rw [pk_cpy_in (Nat.zero_le j) (by omega)]; simp [prL, h]
  · rw [pk_cpy_out (Or.inr (by omega))]; simp [prL, h]
theorem w_copy (hx : p.tables.exec = Jvm.exec) (hb : c.code = cc) (hml : c.maxLocals = ls.size) {own : String} {index : Nat} (hown : s.vm.findClass own = some m.cls) (hts : ∀ w ∈ uU, w.before args s = true) (h1 : Cond.methodLink own index arraycopyName ∈ uU) (h2 : Cond.native arraycopyName ∈ uU) (h3 : Cond.static arraycopyName ∈ uU) (h4 : Cond.initialized "java/lang/System" ∈ uU)
    (hw : wH G A H0 s L f H locs) {a0 n0 n1 : Nat} {r0 r1 : Nat → Int64} (h0L : a0 ∈ L) (haL : a ∈ L) (h0 : f a0 = eJ G n0 r0) (ha : f a = eJ G n1 r1) (n : Nat) (hn : n < 2 ^ 31) (hn0 : n ≤ n0) (hn1 : n ≤ n1) (hframes : 1 ≤ R.frames) (hlocals : (rest.map fun v => v.category).sum + (nativeFrameWords "java/lang/System" "arraycopy" 5 + 11) ≤ R.locals) (hdg : decode cc pc = .ok (.invokestatic index, 3))
    (kk : ∀ (H1 : Heap) (locs1 : List Loc), wH G A H0 s L (va_up f a (eJ G n1 (prL r0 r1 n))) H1 locs1 → W p l e R s m args below meth c H1 locs1 cells slots Q (F0 m (pc + 3) ls rest)) : W p l e R s m args below meth c H locs cells slots Q (F0 m pc ls (.int (nI n) :: .int (nI 0) :: .ref a :: .int (nI 0) :: .ref a0 :: rest)) := by
  obtain ⟨k0, hk0⟩ := wpl_get (f := f) h0L
  obtain ⟨k1, hk1⟩ := wpl_get (f := f) haL
  have hk2 := hk1
  rw [h0] at hk0
  rw [ha] at hk2
  have z : (nI 0).toNatClampNeg = 0 := nI_clamp (by decide)
  have zn : (nI n).toNatClampNeg = n := nI_clamp hn
  refine va_copyl hx hb hml hown (hts _ h1) (hts _ h2) (hts _ h3) (hts _ h4) hw.1 hw.2.1 hw.2.2.1 hw.2.2.2.1 k0 k1 1 1 hk0 hk2 rfl rfl rfl (nI_pos (by decide)) (nI_pos (by decide)) (nI_pos hn) (by rw [z, zn]; omega) (by rw [z, zn]; omega) (fun _ _ => rfl) hframes hlocals hdg (fun H1 locs1 q1 q2 q3 => ?_)
  rw [z, zn, prL_cpy, wpl_set hw.2.2.1 haL hk1] at q1 q2
  exact kk H1 locs1 ⟨hw.1, q1, q2, q3, hw.2.2.2.2⟩
end WCopy
