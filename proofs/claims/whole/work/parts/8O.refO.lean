/-! splits: one try at a product of irreducible ones of one degree -/
section MRefO
theorem oq2 {p : Nat} (hp : 1 ≤ p) (hp2 : p ≤ 1000000000000) : oqJ ((p : Int) - 1) 2 = some (((p - 1) / 2 : Nat) : Int) := by
  unfold oqJ
  rw [if_pos ⟨by omega, by omega, by omega, by omega⟩, Int.tdiv_eq_ediv_of_nonneg (by omega)]
  exact congrArg some (by omega)
theorem s_constP {R T : Type} [Lean.Grind.CommRing T] [Lean.Grind.CommRing R] {ct : T → Nat → R} (K : isPol ct) {p : Nat} (hp : isZp R p) {φ : Int → R} (hφ : isRed φ p) {M : MI} (hM : ok M) {s : Nat} (hs : s < 60) : ∃ M', f_X8_constant s 1 M = some M' ∧ ok M' ∧ chg [s] M M' ∧ RP ct φ p M' s 1 := by
  have hp2 := hp.1.1
  have hN : nu ct (1 : T) = 1 := nu_eq K (fun i hi => by rw [p_one K, if_neg (by omega)]) (fun _ => by rw [p_one K, if_pos (by omega)]; exact hp.2.2.1.1)
  refine ⟨_, s_constant hs (by omega), ok_oI (ok_oJ hM (by omega)) (by omega), chg_mono (chg_trans (chg_win (s := s) (M' := oJ M 41 (24 * s) 1) rfl (fun k i h => by rw [oJ_1, if_neg (by omega)])) (chg_oI _)) (fun x hx => by simpa using hx), ?_, fun j hj => ?_⟩
  · show (oI _ 42 s _).2 42 s = _
    rw [oI_2, if_pos ⟨rfl, rfl⟩, hN]; rfl
  · rw [hN] at hj
    have e : wv (oI (oJ M 41 (24 * s) 1) 42 s (if (1 : Int) = 0 then -1 else 0)) s j = 1 := by
      show (oJ M 41 (24 * s) 1).1 41 (24 * s + j) = 1
      rw [oJ_1, if_pos ⟨rfl, by omega⟩]
    rw [e, p_one K, if_pos (by omega)]
    exact ⟨by omega, by omega, hφ.2.2.2⟩
theorem s_splitsL {R T : Type} [Lean.Grind.CommRing T] [Lean.Grind.CommRing R] {ct : T → Nat → R} (K : isPol ct) {p : Nat} (hp : isZp R p) {φ : Int → R} (hφ : isRed φ p) {M : MI} (hM : ok M) {s d : Nat} (hs : s < 60) (hs2 : 24 ≤ s) (hm : M.1 36 9 = p) (hm2 : p ≤ 1000000000000) {f : T} (hf : RP ct φ p M s f) (hN : nu ct f ≤ 11) (hN2 : 2 ≤ nu ct f) (hf1 : ct f (nu ct f - 1) = 1) (hd : d ≤ 30) {c : Nat} (hc : c < 1000000000000000000) {r0 z0 : T} (h14 : RP ct φ p M 14 r0) (h15 : RP ct φ p M 15 z0) (hr0 : dv f (mo K 1 1 - r0)) (hr0n : nu ct r0 < nu ct f) (hz0 : z0 = 1) {n : Nat} (hn : 18446744073709551616 ≤ n) :
    ∃ M', lpF (l_X8_splits_23 n s d c) n (M, 0) = some M' ∧ ok M' ∧ chg [13, 14, 15, 16, 8, 3, 9] M M' ∧ ∃ z, RP ct φ p M' 15 z ∧ nu ct z < nu ct f ∧ dv f (z - pdn (fun j => mo K 1 1 ^ (p ^ j) + mo K (φ c) 0) d) := by
  have hone : nu ct (1 : T) = 1 := nu_eq K (fun i hi => by rw [p_one K, if_neg (by omega)]) (fun _ => by rw [p_one K, if_pos (by omega)]; exact hp.2.2.1.1)
  refine lp_do (step := l_X8_splits_23 n s d c) (fun st => ok st.1 ∧ chg [13, 14, 15, 16, 8, 3, 9] M st.1 ∧ ∃ (i : Nat) (r z : T), st.2 = i ∧ i ≤ d ∧ RP ct φ p st.1 14 r ∧ RP ct φ p st.1 15 z ∧ nu ct r < nu ct f ∧ nu ct z < nu ct f ∧ dv f (z - pdn (fun j => mo K 1 1 ^ (p ^ j) + mo K (φ c) 0) i) ∧ (i < d → dv f (mo K 1 1 ^ (p ^ i) - r))) (fun st => (40 - st.2).toNat) _ (fun st hst => ?_) n (M, 0) ⟨hM, chg_refl _ _, 0, r0, z0, rfl, by omega, h14, h15, hr0n, by rw [hz0, hone]; omega, by simp only [pdn]; rw [hz0]; exact ⟨0, by grind⟩, fun _ => by rw [Nat.pow_zero, pw1]; exact hr0⟩ (by dsimp only; omega)
  obtain ⟨M1, y⟩ := st
  obtain ⟨k1, k2, i, r, z, hy, hi, r14, r15, hrn, hzn, hz, hr⟩ := hst
  dsimp only at k1 k2 hy r14 r15
  subst hy
  have hp2 := hp.1.1
  have hm1 : M1.1 36 9 = p := by rw [k2.1 36 9 (by omega)]; exact hm
  have hf1' := RP_chg hf k2 (by simp; omega) (by omega)
  unfold l_X8_splits_23
  dsimp only
  rw [gI_s (by omega) (by omega), bs]
  by_cases hid : (d : Int) ≤ i
  · rw [if_pos hid]
    have e : i = d := by omega
    subst e
    exact Or.inl ⟨_, rfl, k1, k2, z, r15, hzn, hz⟩
  · rw [if_neg hid]
    have hr := hr (by omega)
    obtain ⟨M2, e2, hok2, hc2, r2⟩ := s_copyP k1 (a := 14) (b := 13) (by omega) (by omega) r14 (by omega) hn
    have e2' : f_X8_copy n 14 13 M1 = some M2 := e2
    have hm2' : M2.1 36 9 = p := by rw [hc2.1 36 9 (by omega)]; exact hm1
    obtain ⟨M3, e3, hok3, hc3, r3⟩ := s_addConstant K hp hφ hok2 (s := 13) (by omega) hm2' hm2 r2 (by omega) (c := c) (by omega) (by omega) hn
    have e3' : f_X8_addConstant n 13 c M2 = some M3 := e3
    have hm3 : M3.1 36 9 = p := by rw [hc3.1 36 9 (by omega)]; exact hm2'
    have hv : nu ct (r + mo K (φ c) 0) < nu ct f := by
      have h1 : nu ct (r + mo K (φ c) 0) ≤ nu ct f - 1 := nu_le K (fun j hj => by rw [p_add K, nu_hi K r (by omega), mo_co K, if_neg (by omega)]; grind)
      omega
    have r153 := RP_chg (RP_chg r15 hc2 (by simp) (by omega)) hc3 (by simp) (by omega)
    have r143 := RP_chg (RP_chg r14 hc2 (by simp) (by omega)) hc3 (by simp) (by omega)
    have rf3 := RP_chg (RP_chg hf1' hc2 (by simp; omega) (by omega)) hc3 (by simp; omega) (by omega)
    obtain ⟨M4, q4, z4, e4, hok4, hc4, hq4, hz4, r4⟩ := s_multiply K hp hφ hok3 (a := 15) (b := 13) (c := s) (d := 15) (by omega) (by omega) hs (by omega) (by omega) (by omega) (by omega) (by omega) hm3 hm2 r153 r3 rf3 (by omega) (by omega) (by omega) (by omega) (by omega) hf1 hn
    have e4' : f_X8_multiply n 15 13 s 15 M3 = some M4 := e4
    have r144 := RP_chg r143 hc4 (by simp) (by omega)
    obtain ⟨M5, e5, hok5, hc5, r5⟩ := s_copyP hok4 (a := 14) (b := 16) (by omega) (by omega) r144 (by omega) hn
    have e5' : f_X8_copy n 14 16 M4 = some M5 := e5
    have hm5 : M5.1 36 9 = p := by rw [hc5.1 36 9 (by omega), hc4.1 36 9 (by omega)]; exact hm3
    have rf5 := RP_chg (RP_chg rf3 hc4 (by simp; omega) (by omega)) hc5 (by simp; omega) (by omega)
    have r155 := RP_chg r4 hc5 (by simp) (by omega)
    have r145 := RP_chg r144 hc5 (by simp) (by omega)
    have hz5 : dv f (z4 - pdn (fun j => mo K 1 1 ^ (p ^ j) + mo K (φ c) 0) (i + 1)) := by
      simp only [pdn]
      obtain ⟨w1, hw1⟩ := hz
      obtain ⟨w2, hw2⟩ := hr
      refine ⟨(r + mo K (φ c) 0) * w1 - pdn (fun j => mo K 1 1 ^ (p ^ j) + mo K (φ c) 0) i * w2 - q4, ?_⟩
      have hw1' : z = pdn (fun j => mo K 1 1 ^ (p ^ j) + mo K (φ c) 0) i + f * w1 := by rw [← hw1]; grind
      have hw2' : r = mo K 1 1 ^ (p ^ i) - f * w2 := by rw [← hw2]; grind
      have hz4' : z4 = z * (r + mo K (φ c) 0) - q4 * f := by rw [hq4]; grind
      rw [hz4', hw1', hw2']
      grind
    have hch5 : chg [13, 14, 15, 16, 8, 3, 9] M M5 := chg_mono (chg_trans k2 (chg_trans hc2 (chg_trans hc3 (chg_trans hc4 hc5)))) (fun x hx => by simp at hx ⊢; omega)
    rw [e2', bs, e3', bs, e4', bs, e5', bs, gI_s (by omega) (by omega), bs]
    by_cases hid2 : (d : Int) ≤ i + 1
    · rw [if_pos hid2, bs]
      exact Or.inr ⟨_, rfl, ⟨hok5, hch5, i + 1, r, z4, by dsimp only; omega, by omega, r145, r155, hrn, hz4, hz5, fun q => absurd q (by omega)⟩, by dsimp only; omega⟩
    · obtain ⟨M6, r6, e6, hok6, hc6, hr6, hn6, rr6⟩ := s_raise K hp hφ hok5 (a := 16) (c := s) (d := 14) (by omega) hs (by omega) (by omega) (by omega) (by omega) (by omega) (by omega) (by omega) (by omega) hm5 hm2 r5 rf5 (by omega) (by omega) (by omega) hf1 (e := p) (by omega) hn
      have e6' : f_X8_raise n 16 p s 14 M5 = some M6 := e6
      rw [if_neg hid2, hm5, e6', bs, bs]
      refine Or.inr ⟨_, rfl, ⟨hok6, chg_mono (chg_trans hch5 hc6) (fun x hx => by simp at hx ⊢; omega), i + 1, r6, z4, by dsimp only; omega, by omega, rr6, RP_chg r155 hc6 (by simp) (by omega), hn6, hz4, hz5, fun _ => ?_⟩, by dsimp only; omega⟩
      have h7 := cg_pw hr p
      rw [← pw_mul, ← Nat.pow_succ] at h7
      exact cg_trans h7 hr6
theorem s_splits {R T : Type} [Lean.Grind.CommRing T] [Lean.Grind.CommRing R] {ct : T → Nat → R} (K : isPol ct) {p : Nat} (hp : isZp R p) {φ : Int → R} (hφ : isRed φ p) {M : MI} (hM : ok M) {s d : Nat} (hs : s < 60) (hs2 : 24 ≤ s) (hm : M.1 36 9 = p) (hm2 : p ≤ 1000000000000) {f : T} (hf : RP ct φ p M s f) (hN : nu ct f ≤ 11) (hN2 : 2 ≤ nu ct f) (hf1 : ct f (nu ct f - 1) = 1) (hd : d ≤ 30) {c : Nat} (hc : c < 1000000000000000000) {n : Nat} (hn : 18446744073709551616 ≤ n) :
    ∃ M' ret, f_X8_splits n s d c M = some (ret, M') ∧ ok M' ∧ chg [13, 14, 15, 16, 8, 3, 9, 20] M M' ∧ ((ret = 1 ∧ ∃ v, RP ct φ p M' 13 v ∧ dv v f ∧ ct v (nu ct v - 1) = 1 ∧ 2 ≤ nu ct v ∧ nu ct v < nu ct f) ∨ (ret = 0 ∧ ¬ sepAt K p d f (nt c))) := by
  have hp2 := hp.1.1
  have hF := hp.2.2.1
  have hE := pol_EU K hF
  have hf0 : f ≠ 0 := fun q => by rw [(nu_zero K).mpr q] at hN2; omega
  obtain ⟨M1, e1, hok1, hc1, r1⟩ := s_constP K hp hφ hM (s := 15) (by omega)
  have e1' : f_X8_constant 15 1 M = some M1 := e1
  obtain ⟨M2, e2, hok2, hc2, r2⟩ := s_letter K hp hφ hok1 (s := 14) (by omega)
  have e2' : f_X8_letter 14 M1 = some M2 := e2
  have hm2' : M2.1 36 9 = p := by rw [hc2.1 36 9 (by omega), hc1.1 36 9 (by omega)]; exact hm
  have rf2 := RP_chg (RP_chg hf hc1 (by simp; omega) (by omega)) hc2 (by simp; omega) (by omega)
  have hX : nu ct (mo K (1 : R) 1) = 2 := mo_N K 1 hF.1
  obtain ⟨M3, q3, r3, e3, hok3, hc3, hq3, hn3, rr3, -⟩ := s_rest K hp hφ hok2 (a := 14) (b := s) (by omega) hs (by omega) (by omega) (by omega) hm2' hm2 r2 rf2 (by omega) (by omega) (by omega) hf1 hn
  have e3' : f_X8_rest n 14 s M2 = some M3 := e3
  have hm3 : M3.1 36 9 = p := by rw [hc3.1 36 9 (by omega)]; exact hm2'
  have rf3 := RP_chg rf2 hc3 (by simp; omega) (by omega)
  have hone : nu ct (1 : T) = 1 := nu_eq K (fun i hi => by rw [p_one K, if_neg (by omega)]) (fun _ => by rw [p_one K, if_pos (by omega)]; exact hF.1)
  have r153 := RP_chg (RP_chg r1 hc2 (by simp) (by omega)) hc3 (by simp) (by omega)
  obtain ⟨M4, e4, hok4, hc4, z, r4, hzn, hz⟩ := s_splitsL K hp hφ hok3 hs hs2 hm3 hm2 rf3 hN hN2 hf1 hd hc rr3 r153 ⟨q3, by rw [hq3]; grind⟩ hn3 rfl hn
  have hm4 : M4.1 36 9 = p := by rw [hc4.1 36 9 (by omega)]; exact hm3
  have rf4 := RP_chg rf3 hc4 (by simp; omega) (by omega)
  obtain ⟨M5, r5, e5, hok5, hc5, hr5, hn5, rr5⟩ := s_raise K hp hφ hok4 (a := 15) (c := s) (d := 16) (by omega) hs (by omega) (by omega) (by omega) (by omega) (by omega) (by omega) (by omega) (by omega) hm4 hm2 r4 rf4 (by omega) (by omega) (by omega) hf1 (e := (p - 1) / 2) (by omega) hn
  have e5' : f_X8_raise n 15 (((p - 1) / 2 : Nat) : Int) s 16 M4 = some M5 := e5
  have hm5 : M5.1 36 9 = p := by rw [hc5.1 36 9 (by omega)]; exact hm4
  obtain ⟨M6, e6, hok6, hc6, r6⟩ := s_addConstant K hp hφ hok5 (s := 16) (by omega) hm5 hm2 rr5 (by omega) (c := (p : Int) - 1) (by omega) (by omega) hn
  have e6' : f_X8_addConstant n 16 ((p : Int) - 1) M5 = some M6 := e6
  have hφp : φ ((p : Int) - 1) = -1 := by rw [red_sub hφ, hφ.2.2.2, (hφ.2.2.1 (p : Int)).mpr ⟨1, by omega⟩]; grind
  have heq : r5 + mo K (φ ((p : Int) - 1)) 0 = r5 - 1 := by
    rw [hφp, ← mo_one K]
    refine p_ext K (fun i => ?_)
    rw [p_add K, p_sub K, mo_co K, mo_co K]
    split <;> grind
  rw [heq] at r6
  have rf6 := RP_chg (RP_chg rf4 hc5 (by simp; omega) (by omega)) hc6 (by simp; omega) (by omega)
  obtain ⟨M7, e7, hok7, hc7, r7⟩ := s_copyP hok6 (a := s) (b := 20) hs (by omega) rf6 (by omega) hn
  have e7' : f_X8_copy n s 20 M6 = some M7 := e7
  have r67 := RP_chg r6 hc7 (by simp) (by have h1 : nu ct (r5 - 1) ≤ nu ct f - 1 := nu_le K (fun j hj => by rw [p_sub K, nu_hi K r5 (by omega), p_one K, if_neg (by omega)]; grind); omega)
  have hn67 : nu ct (r5 - 1) < nu ct f := by
    have h1 : nu ct (r5 - 1) ≤ nu ct f - 1 := nu_le K (fun j hj => by rw [p_sub K, nu_hi K r5 (by omega), p_one K, if_neg (by omega)]; grind)
    omega
  have hch7 : chg [13, 14, 15, 16, 8, 3, 9, 20] M M7 := chg_mono (chg_trans hc1 (chg_trans hc2 (chg_trans hc3 (chg_trans hc4 (chg_trans hc5 (chg_trans hc6 hc7)))))) (fun x hx => by simp at hx ⊢; omega)
  have d19 : odI M7 42 16 = some ((nu ct (r5 - 1) : Int) - 1) := by rw [odI_n (i := 16) 16 rfl rfl (by rw [k42.2]; omega)]; exact congrArg some r67.1
  -- when an irreducible factor of degree d goes into the row of E
  have key : ∀ π, irr (nu ct) π → ct π (nu ct π - 1) = 1 → dv π f → nu ct π = d + 1 → (dv π (r5 - 1) ↔ chi K p d π (nt c) = 1) := fun π i1 m1 d1 n1 => by
    have h1 : dv π (z - pdn (fun j => mo K 1 1 ^ (p ^ j) + mo K (nt c) 0) (nu ct π - 1)) := by
      rw [← red_nt hφ c, n1, show d + 1 - 1 = d by omega]
      exact dv_trans d1 hz
    have h2 := chi_dv K hp i1 m1 h1
    rw [n1, show d + 1 - 1 = d by omega] at h2
    rw [← h2]
    have h3 := dv_trans d1 hr5
    constructor
    · intro h4
      have := dv_add h3 h4
      rw [show z ^ ((p - 1) / 2) - r5 + (r5 - 1) = z ^ ((p - 1) / 2) - 1 by grind] at this
      exact this
    · intro h4
      have := dv_sub h4 h3
      rw [show z ^ ((p - 1) / 2) - 1 - (z ^ ((p - 1) / 2) - r5) = r5 - 1 by grind] at this
      exact this
  have head : ∀ X, (f_X8_splits n s d c M = some X) = ((if 0 ≤ ((nu ct (r5 - 1) : Int) - 1) then
      Option.bind (f_X8_commonRow n (20) (16) (13) M7) fun v20 =>
      Option.bind (odI v20 42 (13)) fun v21 =>
      Option.bind (
        Option.bind (gI v21 0) fun _ =>
        if v21 ≤ 0 then
          some (0)
        else
          Option.bind (odI v20 42 (13)) fun v22 =>
          Option.bind (odI v20 42 s) fun v23 =>
          Option.bind (gI v22 v23) fun _ =>
          if v23 ≤ v22 then
            some (0)
          else
            some (1)) fun v24 =>
      Option.bind (obz v24) fun v25 =>
      some (v25, v20)
    else
      some ((0), M7)) = some X) := fun X => by
    unfold f_X8_splits
    rw [e1', bs, e2', bs, e3', bs, e4, bs, hm4, oq2 (by omega) hm2, bs, e5', bs, hm5, e6', bs, e7', bs, d19, bs, gI_s (by omega) (by omega), bs]
  by_cases h0 : (0 : Int) ≤ (nu ct (r5 - 1) : Int) - 1
  · obtain ⟨M8, v, u1, v1, e8, hok8, hc8, r8, hv, hvf, hvE, hmon⟩ := s_commonRow K hp hφ hok7 (a := 20) (b := 16) (c := 13) (by omega) (by omega) (by omega) (by omega) (by omega) (by omega) (by rw [hc7.1 36 9 (by omega), hc6.1 36 9 (by omega)]; exact hm5) hm2 r7 r67 (by omega) (by omega) hn
    have e8' : f_X8_commonRow n 20 16 13 M7 = some M8 := e8
    have hv0 : v ≠ 0 := fun q => by
      obtain ⟨w, hw⟩ := hvf
      exact hf0 (by rw [hw, q]; grind)
    have hmon := hmon hv0
    have hnv := eu_le hE hvf hf0
    have hnv0 : nu ct v ≠ 0 := fun q => hv0 ((nu_zero K).mp q)
    have rf8 := RP_chg (RP_chg rf6 hc7 (by simp; omega) (by omega)) hc8 (by simp; omega) (by omega)
    have d21 : odI M8 42 13 = some ((nu ct v : Int) - 1) := by rw [odI_n (i := 13) 13 rfl rfl (by rw [k42.2]; omega)]; exact congrArg some r8.1
    have d23 : odI M8 42 s = some ((nu ct f : Int) - 1) := by rw [odI_n s rfl rfl (by rw [k42.2]; exact hs)]; exact congrArg some rf8.1
    have hch8 : chg [13, 14, 15, 16, 8, 3, 9, 20] M M8 := chg_mono (chg_trans hch7 hc8) (fun x hx => by simp at hx ⊢; omega)
    by_cases h1 : (nu ct v : Int) - 1 ≤ 0
    · refine ⟨M8, 0, ?_, hok8, hch8, Or.inr ⟨rfl, ?_⟩⟩
      · rw [head, if_pos h0, e8', bs, d21, bs, gI_s (by omega) (by omega), bs, if_pos h1, bs]; rfl
      · rintro ⟨π, ρ, i1, i2, m1, m2, d1, d2, n1, n2, hχ, -⟩
        have h3 := (key π i1 m1 d1 n1).mpr hχ
        have h4 : dv π v := by rw [hv]; exact dv_add (dv_mull _ d1) (dv_mull _ h3)
        have h5 := eu_le hE h4 hv0
        have := i1.1
        omega
    · by_cases h2 : (nu ct f : Int) - 1 ≤ (nu ct v : Int) - 1
      · refine ⟨M8, 0, ?_, hok8, hch8, Or.inr ⟨rfl, ?_⟩⟩
        · rw [head, if_pos h0, e8', bs, d21, bs, gI_s (by omega) (by omega), bs, if_neg h1, bs, d23, bs, gI_s (by omega) (by omega), bs, if_pos h2, bs]; rfl
        · rintro ⟨π, ρ, i1, i2, m1, m2, d1, d2, n1, n2, -, hχ⟩
          have h6 : nu ct (r5 - 1) ≠ 0 := by omega
          have := eu_le hE hvE (fun q => h6 ((nu_zero K).mpr q))
          omega
      · refine ⟨M8, 1, ?_, hok8, hch8, Or.inl ⟨rfl, v, r8, hvf, hmon, by omega, by omega⟩⟩
        rw [head, if_pos h0, e8', bs, d21, bs, gI_s (by omega) (by omega), bs, if_neg h1, bs, d23, bs, gI_s (by omega) (by omega), bs, if_neg h2, bs]; rfl
  · refine ⟨M7, 0, ?_, hok7, hch7, Or.inr ⟨rfl, ?_⟩⟩
    · rw [head, if_neg h0]
    · rintro ⟨π, ρ, i1, i2, m1, m2, d1, d2, n1, n2, -, hχ⟩
      have h3 : r5 - 1 = 0 := (nu_zero K).mp (by omega)
      exact hχ ((key ρ i2 m2 d2 n2).mp (by rw [h3]; exact dv_zero _))
end MRefO
