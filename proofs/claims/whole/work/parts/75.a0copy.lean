def ocp (M : MI) (a b : Nat) : MI := (fun k => if k = b then fun i => if i < 11 then M.1 a i else M.1 b i else M.1 k, M.2)
def f_X5_copy (a b : Nat) (M : MI) : Option MI := if kd a = 2 ∧ kd b = 2 ∧ 11 ≤ kn a ∧ 11 ≤ kn b then some (ocp M a b) else none
set_option maxRecDepth 100000 in
set_option maxHeartbeats 4000000 in
theorem cc_X5_copy {l : Launch} {G : gG} {adr : Nat → Nat} {sz : Nat} (hi : adi adr) {a0 a1 : Nat} {M M' : MI} (h : f_X5_copy a0 a1 M = some M') : mV l yX5_copy cX5_copy 2 none { frames := 1, cells := 0, slots := 0, locals := 60 } G adr [.ref (adr a0), .ref (adr a1)] (tm M) sz (tm M') := by
  obtain ⟨⟨h1, h2, h3, h4⟩, rfl⟩ := ite_s h
  have hl0 : a0 < 169 := kd_lt (by omega)
  have hl1 : a1 < 169 := kd_lt (by omega)
  refine wEnter (by decide) (Nat.le_of_ble_eq_true rfl) ?_
  intro p e s m below meth c ls cx hinit hl hsz hw
  obtain ⟨hx, hb, hr, hml, hown, hts, hlocks⟩ := id cx
  have hown : s.vm.findClass RX5 = some m.cls := hown
  have hl : lv_has ls 2 [(0, .ref (adr a0)), (1, .ref (adr a1))] := hl
  refine lv_aload_n hx hb dX5_copy_0 rfl (lv_at hl 0 rfl) ?_
  refine lv_iconst (v := nI 0) hx hb dX5_copy_1 (by decide) ?_
  refine lv_aload_n hx hb dX5_copy_2 rfl (lv_at hl 1 rfl) ?_
  refine lv_iconst (v := nI 0) hx hb dX5_copy_3 (by decide) ?_
  refine lv_bipush (v := nI 11) hx hb dX5_copy_4 (by decide) ?_
  refine w_copy hx hb (hml.trans hl.1.symm) hown hts u_3 u_4 u_5 u_6 hw (LL_mem hl0) (LL_mem hl1) ((wf_adr hi (tm M) hl0).trans (ent_J h1)) ((wf_adr hi (tm M) hl1).trans (ent_J h2)) 11 (by decide) h3 h4 (by decide) (by decide) dX5_copy_6 (fun H locs hw => ?_)
  have e : va_up (wf G adr (tm M)) (adr a1) (eJ G (kn a1) (prL ((tm M).1 a0) ((tm M).1 a1) 11)) = wf G adr (tm (ocp M a0 a1)) := by
    rw [← wf_up hi (M := tm M) (M' := tm (ocp M a0 a1)) hl1 (fun q hq => ⟨by unfold tm ocp; dsimp only; rw [if_neg hq], rfl⟩), ent_J h2]
    congr 2
    funext j
    unfold tm ocp prL
    dsimp only
    rw [if_pos rfl]
    by_cases hj : j < 11
    · simp [hj]
    · simp [hj]
  rw [e] at hw
  exact w_vret (post := fun (u : Mem) => u = tm (ocp M a0 a1)) (lf := fun u => (LL adr, wf G adr u)) hx hb hr hlocks (tm (ocp M a0 a1)) hw rfl dX5_copy_9
