/-! the class's splitter: one piece, one row, one shift -/
section MClsA
def Okp {R T : Type} [Lean.Grind.CommRing R] [Lean.Grind.CommRing T] {ct : T → Nat → R} (K : isPol ct) (p : Nat) (b : T) (s : Nat) (g : T) : Prop := ∀ π ρ, irr (nu ct) π → irr (nu ct) ρ → dv π g → dv ρ g → ∀ c d, dv π (b - mo K c 0) → dv ρ (b - mo K d 0) → ((c + nt s) ^ ((p - 1) / 2) = 1 ↔ (d + nt s) ^ ((p - 1) / 2) = 1)
theorem Okp_dv {R T : Type} [Lean.Grind.CommRing R] [Lean.Grind.CommRing T] {ct : T → Nat → R} (K : isPol ct) {p s : Nat} {b g h : T} (hd : dv h g) (hg : Okp K p b s g) : Okp K p b s h := fun π ρ h1 h2 h3 h4 c d h5 h6 => hg π ρ h1 h2 (dv_trans h3 hd) (dv_trans h4 hd) c d h5 h6
theorem cst_eq {R T : Type} [Lean.Grind.CommRing R] [Lean.Grind.CommRing T] {ct : T → Nat → R} (K : isPol ct) (hF : isF R) {π b : T} (h : irr (nu ct) π) {c d : R} (h1 : dv π (b - mo K c 0)) (h2 : dv π (b - mo K d 0)) : c = d := by
  apply Classical.byContradiction
  intro hne
  have h3 := dv_sub h2 h1
  rw [show b - mo K d 0 - (b - mo K c 0) = mo K c 0 - mo K d 0 by grind, mo_sub K] at h3
  exact unit_no K hF h (fun z => hne (by grind)) h3
def RSY : List Nat := [14, 15, 16, 17, 24, 25]
theorem c_splitPiece {R T : Type} [Lean.Grind.CommRing R] [Lean.Grind.CommRing T] {ct : T → Nat → R} (K : isPol ct) {p : Nat} (hp : isZp R p) {φ : Int → R} (hφ : isRed φ p) (hp2 : p ≤ 100000000) (hp3 : 3 ≤ p) {M : MI} (hM : ok M) {j i m : Nat} (hj : j < m) (hi : i < 10) (hmp : M.1 1 0 = p) (h41 : M.2 4 1 = m) (hm10 : m ≤ 10) {g b : T} (hg : CP ct φ p M (129 + j) g) (hb : CP ct φ p M (149 + i) b) (hg2 : 2 ≤ nu ct g) (hg1 : ct g (nu ct g - 1) = 1) (hsq : sqf (nu ct) g) (hmg : 3 ≤ nu ct g → m < 10) {s : Nat} (hs : s < 1000000) {n : Nat} (hn : 18446744073709551616 ≤ n) :
    ∃ M', f_X6_splitPiece n (129 + j) (149 + i) s M = some M' ∧ ok M' ∧ ((chS RSY M M' ∧ M'.2 4 1 = m ∧ M'.2 4 2 = M.2 4 2 ∧ Okp K p b s g) ∨ (∃ w v, w * v = g ∧ chS (RSY ++ [129 + j, 129 + m]) M M' ∧ m < 10 ∧ M'.2 4 1 = ((m + 1 : Nat) : Int) ∧ M'.2 4 2 = M.2 4 2 ∧ CP ct φ p M' (129 + j) w ∧ CP ct φ p M' (129 + m) v ∧ 2 ≤ nu ct w ∧ 2 ≤ nu ct v ∧ ct w (nu ct w - 1) = 1 ∧ ct v (nu ct v - 1) = 1 ∧ Okp K p b s w ∧ Okp K p b s v)) := by
  have hp1 := hp.1.1
  have hF := hp.2.2.1
  have hE := pol_EU K hF
  have hNg := hg.2
  have hg0 : g ≠ 0 := fun z => by rw [(nu_zero K).mpr z] at hg2; omega
  have ra : row (129 + j) := row_i (by omega)
  have rb : row (149 + i) := row_i (by omega)
  have r24 : row 24 := ⟨rfl, rfl⟩
  have r25 : row 25 := ⟨rfl, rfl⟩
  have r14 : row 14 := ⟨rfl, rfl⟩
  obtain ⟨M1, e1, hok1, hc1, cb1⟩ := c_copyP hM rb r24 hb
  have hg1' := CP_ch hg hc1 (by simp; omega)
  have hm1 : M1.1 1 0 = p := by rw [hc1.2 1 0 (by simp)]; exact hmp
  obtain ⟨M2, q2, b2, e2, hok2, hc2, hq2, hb2, cb2, -⟩ := c_fdivide K hp hφ hp2 hok1 r24 ra (by omega) (by decide) (by omega) hm1 cb1 hg1' (by omega) hn
  have hg2' := CP_ch hg1' hc2 (by simp; omega)
  have hm2 : M2.1 1 0 = p := by rw [hc2.2 1 0 (by simp)]; exact hm1
  have hd3 := c_degreeP K hφ hok2 r24 cb2 hn
  have hbb : dv g (b - b2) := ⟨q2, by rw [hq2]; grind⟩
  have hch2 : chS RSY M M2 := chS_mono (chS_of (chJ_trans hc1 hc2)) (fun x hx => by simp [RSY] at hx ⊢; omega)
  have hNb2 := cb2.2
  by_cases hconst : nu ct b2 ≤ 1
  · refine ⟨M2, ?_, hok2, Or.inl ⟨hch2, by rw [hc2.1, hc1.1]; exact h41, by rw [hc2.1, hc1.1], ?_⟩⟩
    · unfold f_X6_splitPiece
      rw [e1, bs, e2, bs, hd3, bs, gI_s (by omega) (by omega), bs, if_neg (by omega)]
    · have hbc : b2 = mo K (ct b2 0) 0 := p_ext K (fun k => by
        rw [mo_co K]
        by_cases z : k = 0
        · rw [if_pos z, z]
        · rw [if_neg z, nu_hi K b2 (by omega)])
      intro π ρ i1 i2 d1 d2 c d hc hd
      have h1 : dv π (b - mo K (ct b2 0) 0) := by rw [← hbc]; exact dv_trans d1 hbb
      have h2 : dv ρ (b - mo K (ct b2 0) 0) := by rw [← hbc]; exact dv_trans d2 hbb
      rw [cst_eq K hF i1 hc h1, cst_eq K hF i2 hd h2]
  · have hg3 : 3 ≤ nu ct g := by omega
    have hm9 := hmg hg3
    have hd4 := c_degreeP K hφ hok2 ra hg2' hn
    obtain ⟨w1, w2, w3⟩ := cb2.1 0 (by omega)
    obtain ⟨x, hx⟩ : ∃ x, (M2.1 24 0 + s) % p = x := ⟨_, rfl⟩
    have hx0 : 0 ≤ x := by rw [← hx]; exact Int.emod_nonneg _ (by omega)
    have hxp : x < p := by rw [← hx]; exact Int.emod_lt_of_pos _ (by omega)
    have eo : orJ (M2.1 24 0 + s) p = some x := by
      unfold orJ
      rw [if_pos ⟨by omega, by omega, by omega, by omega⟩, tmod_nn (by omega), hx]
    have hok3 : ok (oJ M2 24 0 x) := ok_oJ hok2 (by omega)
    have hc3 : chJ [24] M2 (oJ M2 24 0 x) := chJ_oJ M2 24 0 x
    have cb3 : CP ct φ p (oJ M2 24 0 x) 24 (b2 + mo K (nt s) 0) := ⟨fun k hk => by
      rw [oJ_1, p_add K, mo_co K]
      by_cases z : k = 0
      · rw [if_pos ⟨rfl, z⟩, if_pos z]
        refine ⟨hx0, hxp, ?_⟩
        rw [← hx, red_md hφ, hφ.1, w3, red_nt hφ, z]
      · rw [if_neg (fun y => z y.2), if_neg z]
        obtain ⟨y1, y2, y3⟩ := cb2.1 k hk
        exact ⟨y1, y2, by rw [y3]; grind⟩, nu_le K (fun k hk => by rw [p_add K, mo_co K, if_neg (by omega), nu_hi K b2 (by omega)]; grind)⟩
    have hnb3 : nu ct (b2 + mo K (nt s) 0) < nu ct g := by
      have : nu ct (b2 + mo K (nt s) 0) ≤ nu ct g - 1 := nu_le K (fun k hk => by rw [p_add K, mo_co K, if_neg (by omega), nu_hi K b2 (by omega)]; grind)
      omega
    have hg3' := CP_ch hg2' hc3 (by simp; omega)
    have hm3 : (oJ M2 24 0 x).1 1 0 = p := by rw [hc3.2 1 0 (by simp)]; exact hm2
    have eq9 : oqJ ((p : Int) - 1) 2 = some (((p - 1) / 2 : Nat) : Int) := oq2 (by omega) (by omega)
    obtain ⟨M4, t, e4, hok4, hc4, ht, htn, ct4⟩ := c_raise K hp hφ hp2 hok3 (a := 24) (c := 129 + j) (d := 25) r24 ra r25 (by decide) (by omega) (by decide) (by decide) (by omega) hm3 cb3 hg3' hg2 hg1 hnb3 (e := (p - 1) / 2) (by omega) hn
    have hm4 : M4.1 1 0 = p := by rw [hc4.2 1 0 (by simp)]; exact hm3
    obtain ⟨u1, u2, u3⟩ := ct4.1 0 (by omega)
    obtain ⟨y, hy⟩ : ∃ y, (M4.1 25 0 - 1) % p = y := ⟨_, rfl⟩
    have hy0 : 0 ≤ y := by rw [← hy]; exact Int.emod_nonneg _ (by omega)
    have hyp : y < p := by rw [← hy]; exact Int.emod_lt_of_pos _ (by omega)
    have hok5 : ok (oJ M4 25 0 y) := ok_oJ hok4 (by omega)
    have hc5 : chJ [25] M4 (oJ M4 25 0 y) := chJ_oJ M4 25 0 y
    have ct5 : CP ct φ p (oJ M4 25 0 y) 25 (t - 1) := ⟨fun k hk => by
      rw [oJ_1, p_sub K, p_one K]
      by_cases z : k = 0
      · rw [if_pos ⟨rfl, z⟩, if_pos z]
        refine ⟨hy0, hyp, ?_⟩
        rw [← hy, red_md hφ, red_sub hφ, hφ.2.2.2, u3, z]
      · rw [if_neg (fun w => z w.2), if_neg z]
        obtain ⟨y1, y2, y3⟩ := ct4.1 k hk
        exact ⟨y1, y2, by rw [y3]; grind⟩, nu_le K (fun k hk => by rw [p_sub K, p_one K, if_neg (by omega), nu_hi K t (by have := ct4.2; omega)]; grind)⟩
    have hg5 := CP_ch (CP_ch hg3' hc4 (by simp; omega)) hc5 (by simp; omega)
    have hm5 : (oJ M4 25 0 y).1 1 0 = p := by rw [hc5.2 1 0 (by simp)]; exact hm4
    obtain ⟨M6, v, ug, vg, e6, hok6, hc6, cv6, hv, hvg, hvt, hvm⟩ := c_commonDivisor K hp hφ hp2 hok5 (a := 129 + j) (b := 25) (c := 25) ra r25 r25 (by omega) (by decide) hm5 (f := g) (g := t - 1) (fun k hk => (hg5.1 k hk).2.2) (fun k hk => (ct5.1 k hk).2.2) hg5.2 ct5.2 (fun k hk => by have := (hg5.1 k hk).1; omega) (fun k hk => by have := (ct5.1 k hk).1; omega) hn
    have hv0 : v ≠ 0 := fun z => hg0 (by obtain ⟨w, hw⟩ := hvg; rw [hw, z]; grind)
    have hvm := hvm hv0
    have hnv0 : nu ct v ≠ 0 := fun z => hv0 ((nu_zero K).mp z)
    have hnvg := eu_le hE hvg hg0
    have hd15 := c_degreeP K hφ hok6 r25 cv6 hn
    have h642 : M6.2 = M.2 := by rw [hc6.1, hc5.1, hc4.1, hc3.1, hc2.1, hc1.1]
    have hch6 : chS RSY M M6 := chS_mono (chS_of (chJ_trans hc1 (chJ_trans hc2 (chJ_trans hc3 (chJ_trans hc4 (chJ_trans hc5 hc6)))))) (fun x hx => by simp [RSY] at hx ⊢; omega)
    have hNv := cv6.2
    -- which factors go into v
    have key : ∀ π, irr (nu ct) π → dv π g → ∀ c, dv π (b - mo K c 0) → (dv π v ↔ (c + nt s) ^ ((p - 1) / 2) = 1) := fun π i1 d1 c hc => by
      have h1 : dv π (b2 + mo K (nt s) 0 - mo K (c + nt s) 0) := by
        have h2 := dv_sub hc (dv_trans d1 hbb)
        rw [show b2 + mo K (nt s) 0 - mo K (c + nt s) 0 = b - mo K c 0 - (b - b2) by rw [mo_add K]; grind]
        exact h2
      have h3 := cg_pw h1 ((p - 1) / 2)
      rw [mo_pw K, Nat.zero_mul] at h3
      have h4 : dv π (t - mo K ((c + nt s) ^ ((p - 1) / 2)) 0) := cg_trans (cg_symm (dv_trans d1 ht)) h3
      constructor
      · intro h5
        have h6 := dv_trans h5 hvt
        apply Classical.byContradiction
        intro hne
        have h7 := dv_sub h6 h4
        rw [show t - 1 - (t - mo K ((c + nt s) ^ ((p - 1) / 2)) 0) = mo K ((c + nt s) ^ ((p - 1) / 2)) 0 - 1 by grind, ← mo_one K, mo_sub K] at h7
        exact unit_no K hF i1 (fun z => hne (by grind)) h7
      · intro h5
        rw [h5, mo_one K] at h4
        rw [hv]
        exact dv_add (dv_mull _ d1) (dv_mull _ h4)
    have pre : ∀ X, (f_X6_splitPiece n (129 + j) (149 + i) s M = some X) = ((if (nu ct v : Int) - 1 < (1) then some M6 else Option.bind (gI ((nu ct v : Int) - 1) ((nu ct g : Int) - 1)) fun _ => if (nu ct g : Int) - 1 ≤ (nu ct v : Int) - 1 then some M6 else Option.bind (gI (M6.2 4 1) (10)) fun _ => if (M6.2 4 1) < (10) then Option.bind (f_X5_copy (129 + j) 24 M6) fun v16 => Option.bind (f_X3_divide n 24 25 v16) fun v17 => Option.bind (f_X5_copy 14 (129 + j) v17) fun v18 => Option.bind (odA 20 (v18.2 4 1)) fun v19 => Option.bind (f_X5_copy 25 v19 v18) fun v20 => Option.bind (opI v20 4 1 ((v20.2 4 1) + (1))) fun v21 => some v21 else some M6) = some X) := fun X => by
      unfold f_X6_splitPiece
      rw [e1, bs, e2, bs, hd3, bs, gI_s (by omega) (by omega), bs, if_pos (by omega), hd4, bs, odJ_n (k := 24) (i := 0) 0 rfl rfl (show 0 < 11 by omega), bs, gI_s (by omega) (by omega), bs, hm2, eo, bs, osJ_n (k := 24) (i := 0) 0 rfl rfl (show 0 < 11 by omega), bs, hm3, eq9, bs, e4, bs, odJ_n (k := 25) (i := 0) 0 rfl rfl (show 0 < 11 by omega), bs, hm4, j_floorMod (by omega) (by omega), bs, hy, osJ_n (k := 25) (i := 0) 0 rfl rfl (show 0 < 11 by omega), bs, e6, bs, hd15, bs, gI_s (by omega) (by omega), bs]
    by_cases h1 : nu ct v ≤ 1
    · refine ⟨M6, by rw [pre, if_pos (by omega)], hok6, Or.inl ⟨hch6, by rw [h642]; exact h41, by rw [h642], fun π ρ i1 i2 d1 d2 c d hc hd => ?_⟩⟩
      have n1 : ¬ dv π v := fun z => by have := eu_le hE z hv0; have := i1.1; omega
      have n2 : ¬ dv ρ v := fun z => by have := eu_le hE z hv0; have := i2.1; omega
      rw [← key π i1 d1 c hc, ← key ρ i2 d2 d hd]
      exact ⟨fun z => absurd z n1, fun z => absurd z n2⟩
    · by_cases h2 : nu ct g ≤ nu ct v
      · refine ⟨M6, by rw [pre, if_neg (by omega), gI_s (by omega) (by omega), bs, if_pos (by omega)], hok6, Or.inl ⟨hch6, by rw [h642]; exact h41, by rw [h642], fun π ρ i1 i2 d1 d2 c d hc hd => ?_⟩⟩
        have hgv : dv g v := by
          obtain ⟨w, hw⟩ := hvg
          have hw0 : w ≠ 0 := fun z => hg0 (by rw [hw, z]; grind)
          have h5 := nu_mul K (isF_D hF) hv0 hw0
          rw [← hw] at h5
          have hw1 : nu ct w = 1 := by have : nu ct w ≠ 0 := fun z => hw0 ((nu_zero K).mp z); omega
          obtain ⟨z, hz⟩ := eu_unit hE hw1
          exact ⟨z, by rw [hw, show v * w * z = v * (w * z) by grind, hz]; grind⟩
        rw [← key π i1 d1 c hc, ← key ρ i2 d2 d hd]
        exact ⟨fun _ => dv_trans d2 hgv, fun _ => dv_trans d1 hgv⟩
      · have hg6 := CP_ch hg5 hc6 (by simp; omega)
        obtain ⟨M7, e7, hok7, hc7, cg7⟩ := c_copyP hok6 ra r24 hg6
        have cv7 := CP_ch cv6 hc7 (by simp)
        have hm7 : M7.1 1 0 = p := by rw [hc7.2 1 0 (by simp), hc6.2 1 0 (by simp)]; exact hm5
        obtain ⟨M8, w, r, e8, hok8, hc8, hw, hr, -, cw8⟩ := c_fdivide K hp hφ hp2 hok7 r24 r25 (by decide) (by decide) (by decide) hm7 cg7 cv7 (by omega) hn
        have hr0 : r = 0 := by
          obtain ⟨x, hx⟩ := hvg
          have h1 : dv v r := ⟨x - w, by grind⟩
          apply Classical.byContradiction
          intro h2
          have := eu_le hE h1 h2
          omega
        have hwv : w * v = g := by rw [hw, hr0]; grind
        have hw0 : w ≠ 0 := fun z => hg0 (by rw [← hwv, z]; grind)
        have hNw := nu_mul K (isF_D hF) hw0 hv0
        rw [hwv] at hNw
        have hnw0 : nu ct w ≠ 0 := fun z => hw0 ((nu_zero K).mp z)
        have hwm : ct w (nu ct w - 1) = 1 := by
          have h1 := mul_top K (a := w) (b := v) (n := nu ct w - 1) (m := nu ct v - 1) (fun i hi => nu_hi K w (by omega)) (fun i hi => nu_hi K v (by omega))
          rw [hwv, show nu ct w - 1 + (nu ct v - 1) = nu ct g - 1 by omega, hg1, hvm] at h1
          rw [h1]; grind
        have cv8 := CP_ch cv7 hc8 (by simp)
        obtain ⟨M9, e9, hok9, hc9, cw9⟩ := c_copyP hok8 r14 ra cw8
        have cv9 := CP_ch cv8 hc9 (by simp; omega)
        have rm : row (129 + m) := row_i (by omega)
        obtain ⟨Ma, ea, hoka, hca, cva⟩ := c_copyP hok9 r25 rm cv9
        have cwa := CP_ch cw9 hca (by simp; omega)
        have h92 : M9.2 = M.2 := by rw [hc9.1, hc8.1, hc7.1, h642]
        have ha2 : Ma.2 = M.2 := by rw [hca.1, h92]
        refine ⟨oI Ma 4 1 ((m : Int) + 1), ?_, ok_oI hoka (by omega), Or.inr ⟨w, v, hwv, ?_, hm9, by rw [oI_2, if_pos ⟨rfl, rfl⟩]; omega, by rw [oI_2, if_neg (by omega), ha2], cwa, cva, by omega, by omega, hwm, hvm, fun π ρ i1 i2 d1 d2 c d hc hd => ?_, fun π ρ i1 i2 d1 d2 c d hc hd => ?_⟩⟩
        · rw [pre, if_neg (by omega), gI_s (by omega) (by omega), bs, if_neg (by omega), h642, h41, gI_s (by omega) (by omega), bs, if_pos (by omega), e7, bs, e8, bs, e9, bs, h92, h41, oA20 rfl hm9, bs, ea, bs, ha2, h41]
          rfl
        · refine chS_mono (chS_trans (chS_trans hch6 (chS_of (chJ_trans hc7 (chJ_trans hc8 (chJ_trans hc9 hca))))) (show chS [] Ma (oI Ma 4 1 ((m : Int) + 1)) from ⟨fun _ _ _ => rfl, fun k i _ hk => by rw [oI_2, if_neg (fun z => hk ⟨z.1, Or.inl z.2⟩)]⟩)) (fun x hx => ?_)
          simp [RSY] at hx ⊢
          omega
        · have e1 : ∀ σ, irr (nu ct) σ → dv σ w → ¬ dv σ v := fun σ j1 j2 j3 => by
            obtain ⟨x, hx⟩ := j2
            obtain ⟨y, hy⟩ := j3
            exact hsq σ j1 ⟨x * y, by rw [← hwv, hx, hy]; grind⟩
          have d1g : dv π g := dv_trans d1 ⟨v, hwv.symm⟩
          have d2g : dv ρ g := dv_trans d2 ⟨v, hwv.symm⟩
          rw [← key π i1 d1g c hc, ← key ρ i2 d2g d hd]
          exact ⟨fun z => absurd z (e1 π i1 d1), fun z => absurd z (e1 ρ i2 d2)⟩
        · have d1g : dv π g := dv_trans d1 hvg
          have d2g : dv ρ g := dv_trans d2 hvg
          rw [← key π i1 d1g c hc, ← key ρ i2 d2g d hd]
          exact ⟨fun _ => d2, fun _ => d1⟩
end MClsA
