/-! factorWhole: a good prime, its factors, the whole ones -/
section MRefV
theorem pb_inj13 : ∀ i j, i < j → j < 13 → pbp i ≠ pbp j := by
  intro i j h1 h2
  have : ∀ j : Fin 13, ∀ i : Fin 13, i.1 < j.1 → pbp i.1 ≠ pbp j.1 := by decide
  exact this ⟨j, h2⟩ ⟨i, by omega⟩ h1
theorem pb_no13 {C : Nat} (hC : C ≠ 0) (hB : C ≤ 110000000 ^ 19) (h : ∀ j, j < 13 → pbp j ∣ C) : False := by
  have h1 := Nat.le_of_dvd (by omega) (pdN_dv (f := pbp) (k := 13) (fun j hj => (pb_prm j (by omega)).1) pb_inj13 h)
  have h2 : 110000000 ^ 19 < pdN pbp 13 := by decide
  omega
def GP {S : Type} [Lean.Grind.CommRing S] {co : S → Nat → Int} (P : isPol co) (G : S) (M : MI) : Prop := ∃ (p : Nat) (R T : Type) (_ : Lean.Grind.CommRing R) (_ : Lean.Grind.CommRing T) (ct : T → Nat → R) (K : isPol ct) (hp : isZp R p) (φ : Int → R) (hφ : isRed φ p) (u0 : T) (c : R), 999999999000 ≤ p ∧ p ≤ 1000000000000 ∧ p % 2 = 1 ∧ M.1 36 9 = p ∧ RP ct φ p M 12 u0 ∧ c ≠ 0 ∧ u0 = mo K c 0 * rd P K hp hφ G ∧ nu ct u0 = nu co G ∧ ct u0 (nu ct u0 - 1) = 1 ∧ sqf (nu ct) u0
theorem s_goodP {S : Type} [Lean.Grind.CommRing S] {co : S → Nat → Int} (P : isPol co) {M : MI} (hM : ok M) (hpb : ∀ k, k < 20 → M.2 37 k = PB k) {G : S} (hG : RZ co M 1 G) (hNG : nu co G ≤ 11) (hN2 : 2 ≤ nu co G) (hXG : ∀ i, nz (co G i) ≤ 979902) (hG1 : isG P G (dr P G) 1) {n : Nat} (hn : 18446744073709551616 ≤ n) :
    ∃ M', lpF (l_X8_factorWhole_9 n) n (M, 0, 0) = some M' ∧ ok M' ∧ chm [2, 3, 5, 11, 12] [] M M' ∧ GP P G M' := by
  have hGne : G ≠ 0 := fun z => by rw [(nu_zero P).mpr z] at hN2; omega
  have hND := nu_dr P (f := G) (by omega)
  have hDne : dr P G ≠ 0 := fun z => by rw [(nu_zero P).mpr z] at hND; omega
  have hdc : ∀ i, co (dr P G) i = (i + 1 : Nat) * co G (i + 1) := fun i => by rw [dr_co P, nt_int]
  have hXD : ∀ i, nz (co (dr P G) i) ≤ 9799020 := fun i => by
    rcases Nat.lt_or_ge i 10 with q | q
    · rw [hdc]
      have h1 : nz ((i + 1 : Nat) : Int) ≤ 10 := by unfold nz; omega
      have := nz_mul_le h1 (hXG (i + 1))
      omega
    · rw [nu_hi P _ (by omega)]; decide
  obtain ⟨g1, g2, gA, gB, c0, u0, v0, hc0, he0⟩ := hG1
  obtain ⟨C0, u, v, hC0, hCB, hCe⟩ := good_c P hGne hDne gA gB hc0 he0 (B := 110000000) (by
    have a1 := l1_le P hNG hXG
    have a2 : l1 co (dr P G) ≤ 10 * 9799020 := by
      rw [← l1_n P (dr P G) (n := 10) (by omega)]
      have := sm_le (f := fun i => nz (co (dr P G) i)) (g := fun _ => 9799020) (n := 10) (fun i _ => hXD i)
      rw [sm_const] at this
      omega
    omega) (E := 19) (by omega) (by omega)
  refine lp_do (step := l_X8_factorWhole_9 n) (fun st => ok st.1 ∧ chm [2, 3, 5, 11, 12] [] M st.1 ∧ ∃ k : Nat, st.2.1 = k ∧ k ≤ 13 ∧ (st.2.2 = 0 ∧ (∀ j, j < k → (pbp j : Int) ∣ C0) ∨ st.2.2 = 1 ∧ GP P G st.1)) (fun st => (50 - st.2.1).toNat) _ (fun st hst => ?_) n (M, 0, 0) ⟨hM, chm_refl _ _ _, 0, rfl, by omega, Or.inl ⟨rfl, fun j hj => absurd hj (by omega)⟩⟩ (by dsimp only; omega)
  obtain ⟨M0, y, gd⟩ := st
  obtain ⟨k1, k2, k, hy, hk13, hgd⟩ := hst
  dsimp only at k1 k2 hy hgd
  subst hy
  rcases hgd with ⟨hgd, hdiv⟩ | ⟨hgd, hGP⟩
  · subst hgd
    have hk : k < 13 := by
      rcases Nat.lt_or_ge k 13 with q | q
      · exact q
      · exact (pb_no13 (C := C0.natAbs) (by omega) hCB (fun j hj => Int.ofNat_dvd_left.mp (hdiv j (by omega)))).elim
    obtain ⟨hpr, hod, hlo, hhi, hpe⟩ := pb_prm k hk
    obtain ⟨p, hpp⟩ : ∃ p, pbp k = p := ⟨_, rfl⟩
    rw [hpp] at hpr hod hlo hhi hpe
    obtain ⟨R, T, I, J, ct, φ, K, hp, hφ⟩ := zp_ex hpr
    have hF := hp.2.2.1
    have hE := pol_EU K hF
    have hG0 := RZ_chm hG k2 (by simp) (by omega)
    have e1 : f_X8_takePrime k M0 = some (oJ M0 36 9 p) := by rw [s_takePrime k1 (by omega), k2.2.1 37 k (by omega) (by simp), hpb k (by omega), ← hpe]
    have hok1 : ok (oJ M0 36 9 p) := ok_oJ k1 (by omega)
    have hc1 := chm_md [] M0 p
    have hm1 : (oJ M0 36 9 p).1 36 9 = p := by rw [oJ_1, if_pos ⟨rfl, rfl⟩]
    have rG1 := RZ_chm hG0 hc1 (by simp) (by omega)
    obtain ⟨M2, e2, hok2, hc2, r25⟩ := s_copyZ hok1 (a := 1) (b := 5) (by omega) (by omega) rG1 (by omega) hn
    have e2' : f_X8_copy n 1 5 (oJ M0 36 9 p) = some M2 := e2
    have hm2 : M2.1 36 9 = p := by rw [hc2.1 36 9 (by omega)]; exact hm1
    obtain ⟨M3, e3, hok3, hc3, r35⟩ := s_reduce P K hp hφ hok2 (s := 5) (by omega) hm2 hhi r25 (by omega) (fun j => by have := nz_le.mp (hXG j); omega) hn
    have e3' : f_X8_reduce n 5 M2 = some M3 := e3
    have hlG := lc_small P (f := G) (by omega) (p := p) hXG (by omega)
    have hNr := rd_N P K hp hφ hlG
    have hrG0 : rd P K hp hφ G ≠ 0 := fun z => by rw [(nu_zero K).mpr z] at hNr; omega
    have hm3 : M3.1 36 9 = p := by rw [hc3.1 36 9 (by omega)]; exact hm2
    obtain ⟨M4, c, e4, hok4, hc4, hc40, hc41, r45, n45⟩ := s_monic K hp hφ hok3 (s := 5) (by omega) hm3 hhi r35 (by omega) hrG0 hn
    have e4' : f_X8_monic n 5 M3 = some M4 := e4
    obtain ⟨uu, huu⟩ : ∃ uu, uu = mo K c 0 * rd P K hp hφ G := ⟨_, rfl⟩
    rw [← huu] at r45 n45
    obtain ⟨M5, e5, hok5, hc5, r5⟩ := s_copyP hok4 (a := 5) (b := 12) (by omega) (by omega) r45 (by omega) hn
    have e5' : f_X8_copy n 5 12 M4 = some M5 := e5
    have rG5 := RZ_chg (RZ_chg (RZ_chg (RZ_chg rG1 hc2 (by simp) (by omega)) hc3 (by simp) (by omega)) hc4 (by simp) (by omega)) hc5 (by simp) (by omega)
    obtain ⟨M6, e6, hok6, hc6, r6⟩ := s_copyZ hok5 (a := 1) (b := 2) (by omega) (by omega) rG5 (by omega) hn
    have e6' : f_X8_copy n 1 2 M5 = some M6 := e6
    have rG6 := RZ_chg rG5 hc6 (by simp) (by omega)
    obtain ⟨M7, e7, hok7, hc7, r7⟩ := s_derive P hok6 (a := 1) (b := 2) (by omega) (by omega) (by omega) rG6 (by omega) (by omega) (fun i => by have := hXG i; omega) hn
    have e7' : f_X8_derive n 1 2 M6 = some M7 := e7
    have hm7 : M7.1 36 9 = p := by rw [hc7.1 36 9 (by omega), hc6.1 36 9 (by omega), hc5.1 36 9 (by omega), hc4.1 36 9 (by omega)]; exact hm3
    obtain ⟨M8, e8, hok8, hc8, r8⟩ := s_reduce P K hp hφ hok7 (s := 2) (by omega) hm7 hhi r7 (by omega) (fun j => by have := nz_le.mp (hXD j); omega) hn
    have e8' : f_X8_reduce n 2 M7 = some M8 := e8
    have hm8 : M8.1 36 9 = p := by rw [hc8.1 36 9 (by omega)]; exact hm7
    have hNrd : nu ct (rd P K hp hφ (dr P G)) ≤ 11 := nu_le K (fun i hi => by rw [rd_co P K hp hφ, nu_hi P _ (by omega)]; exact red_zero hφ)
    have r58 := RP_chg (RP_chg (RP_chg (RP_chg r45 hc5 (by simp) (by omega)) hc6 (by simp) (by omega)) hc7 (by simp) (by omega)) hc8 (by simp) (by omega)
    obtain ⟨M9, h, u1, v1, e9, hok9, hc9, r9, hh, hhA, hhB, hmon⟩ := s_commonRow K hp hφ hok8 (a := 5) (b := 2) (c := 11) (by omega) (by omega) (by omega) (by omega) (by omega) (by omega) hm8 hhi r58 r8 (by omega) (by omega) hn
    have e9' : f_X8_commonRow n 5 2 11 M8 = some M9 := e9
    have huu0 : uu ≠ 0 := fun z => by rw [(nu_zero K).mpr z] at n45; omega
    have hh0 : h ≠ 0 := fun z => huu0 (by obtain ⟨w, hw⟩ := hhA; rw [hw, z]; grind)
    have hnh0 : nu ct h ≠ 0 := fun z => hh0 ((nu_zero K).mp z)
    have hnh := eu_le hE hhA huu0
    have hm9 : M9.1 36 9 = p := by rw [hc9.1 36 9 (by omega)]; exact hm8
    have hch9 : chm [2, 3, 5, 11, 12] [] M M9 := chm_mono (chm_trans k2 (chm_trans hc1 (chm_of (chg_trans hc2 (chg_trans hc3 (chg_trans hc4 (chg_trans hc5 (chg_trans hc6 (chg_trans hc7 (chg_trans hc8 hc9)))))))))) (fun x hx => by simp at hx ⊢; omega) (fun x hx => hx)
    have d14 : odI M9 42 11 = some ((nu ct h : Int) - 1) := by rw [odI_n (i := 11) 11 rfl rfl (by rw [k42.2]; omega)]; exact congrArg some r9.1
    unfold l_X8_factorWhole_9
    dsimp only
    rw [gI_s (by omega) (by omega), bs, if_pos rfl, e1, bs, e2', bs, e3', bs, e4', bs, e5', bs, e6', bs, e7', bs, e8', bs, e9', bs, d14, bs, gI_s (by omega) (by omega), bs]
    by_cases h1 : (nu ct h : Int) - 1 = 0
    · rw [if_pos h1, bs]
      refine Or.inr ⟨_, rfl, ⟨hok9, hch9, k + 1, by dsimp only; omega, by omega, Or.inr ⟨rfl, p, R, T, I, J, ct, K, hp, φ, hφ, uu, c, hlo, hhi, hod, hm9, ?_, hc40, huu, by omega, ?_, fun π i1 hd => ?_⟩⟩, by dsimp only; omega⟩
      · exact RP_chg (RP_chg (RP_chg (RP_chg r5 hc6 (by simp) (by omega)) hc7 (by simp) (by omega)) hc8 (by simp) (by omega)) hc9 (by simp) (by omega)
      · rw [n45, huu, mo_0 K, ← hc41]; grind
      · obtain ⟨w, hw⟩ := hd
        have d1 : dv π (dr K uu) := ⟨dr K (π * w) + dr K π * w, by rw [hw, show π * π * w = π * (π * w) by grind, dr_mul]; grind⟩
        have d2 : dr K uu = mo K c 0 * rd P K hp hφ (dr P G) := by
          rw [huu, dr_mul, rd_dr]
          have : dr K (mo K c 0) = 0 := p_ext K (fun i => by rw [dr_co K, mo_co K, if_neg (by omega), p_zero K]; grind)
          rw [this]; grind
        obtain ⟨d, hd0, hd1⟩ := mo_inv K hF hc40
        have d3 : dv π (rd P K hp hφ (dr P G)) := by
          obtain ⟨x, hx⟩ := d1
          rw [d2] at hx
          refine ⟨mo K d 0 * x, ?_⟩
          have : mo K d 0 * (mo K c 0 * rd P K hp hφ (dr P G)) = mo K d 0 * (π * x) := by rw [hx]
          grind
        have d4 : dv π h := by rw [hh]; exact dv_add (dv_mull _ ⟨π * w, by rw [hw]; grind⟩) (dv_mull _ d3)
        have := eu_le hE d4 hh0
        have := i1.1
        omega
    · rw [if_neg h1, bs]
      refine Or.inr ⟨_, rfl, ⟨hok9, hch9, k + 1, by dsimp only; omega, by omega, Or.inl ⟨rfl, fun j hj => ?_⟩⟩, by dsimp only; omega⟩
      rcases Nat.lt_or_ge j k with q | q
      · exact hdiv j q
      · rw [show j = k by omega, hpp]
        apply Classical.byContradiction
        intro hnd
        have hrG : dv h (rd P K hp hφ G) := by
          obtain ⟨d, hd0, hd1⟩ := mo_inv K hF hc40
          obtain ⟨x, hx⟩ := hhA
          refine ⟨mo K d 0 * x, ?_⟩
          have : mo K d 0 * (mo K c 0 * rd P K hp hφ G) = mo K d 0 * (h * x) := by rw [← huu, hx]
          grind
        have h2 := gp_le P K hp hφ hnd hCe hrG hhB
        rw [rd_one] at h2
        have hone : nu ct (1 : T) = 1 := nu_eq K (fun i hi => by rw [p_one K, if_neg (by omega)]) (fun _ => by rw [p_one K, if_pos (by omega)]; exact hF.1)
        have := eu_le hE h2 (fun z => by rw [(nu_zero K).mpr z] at hone; omega)
        omega
  · subst hgd
    unfold l_X8_factorWhole_9
    dsimp only
    rw [gI_s (by omega) (by omega), bs, if_neg (by omega)]
    exact Or.inl ⟨_, rfl, k1, k2, hGP⟩
theorem pdn_two {T : Type} [Lean.Grind.CommRing T] (q : Nat → T) : ∀ {m i j : Nat}, i < j → j < m → dv (q i * q j) (pdn q m)
  | 0, i, j, _, h => absurd h (by omega)
  | m + 1, i, j, hij, h => by
    rcases Nat.lt_or_ge j m with z | z
    · exact dv_trans (pdn_two q hij z) (dv_l _ _)
    · have e : j = m := by omega
      subst e
      have h1 : dv (q i) (pdn q j) := by
        clear h
        obtain ⟨d, rfl⟩ : ∃ d, j = i + 1 + d := ⟨j - i - 1, by omega⟩
        clear hij z
        induction d with
        | zero => exact dv_r _ _
        | succ d ih => exact dv_trans ih (dv_l _ _)
      obtain ⟨w, hw⟩ := h1
      exact ⟨w, by show pdn q j * q j = _; rw [hw]; grind⟩
theorem s_joinO {S T R : Type} [Lean.Grind.CommRing S] [Lean.Grind.CommRing T] [Lean.Grind.CommRing R] {co : S → Nat → Int} (P : isPol co) {ct : T → Nat → R} (K : isPol ct) {p : Nat} (hp : isZp R p) {φ : Int → R} (hφ : isRed φ p) (hpl : 100000000000 < p) (hm2 : p ≤ 1000000000000) (hod : p % 2 = 1) {m : Nat} {q : Nat → T} (hirr : ∀ i, i < m → irr (nu ct) (q i)) (hcop : ∀ i j, i < m → j < m → i ≠ j → cop (q i) (q j)) (hmonq : ∀ i, i < m → ct (q i) (nu ct (q i) - 1) = 1) (hGq : nu ct (pdn q m) ≤ 11) (hm10 : m ≤ 10) {F G : S} (hF0 : nu co F ≠ 0) (hNF : nu co F ≤ 11) (hXF : ∀ i, nz (co F i) ≤ 9999) (hGF : dv G F) (hGl : ¬ (p : Int) ∣ co G (nu co G - 1)) {M0 M : MI} {rest : S} {L : Nat} {fo : Nat → S} {k : Nat} (h : WI P K hp hφ q m G M0 M rest L fo k 1 1) {n : Nat} (hn : 18446744073709551616 ≤ n) :
    ∃ (M' : MI) (rest' : S) (L' : Nat) (fo' : Nat → S) (k' many : Nat), lpF (l_X8_factorWhole_111 n) n (M, (L : Int), 1) = some M' ∧ WI P K hp hφ q m G M0 M' rest' L' fo' k' many 1 ∧ pc (tb L') m < 2 * many := by
  have h1024 := pow_le10 hm10
  have hpcm : ∀ a, pc a m ≤ m := fun a => by
    clear h hGq hcop hirr hmonq
    revert a
    clear hm10 h1024
    induction m with
    | zero => intro a; simp [pc]
    | succ j ih => intro a; simp only [pc]; have := ih a; split <;> omega
  obtain ⟨M', hL, rest', L', fo', k', many, hW, hpc⟩ := lp_do (step := l_X8_factorWhole_111 n) (fun st => ∃ (rest : S) (L : Nat) (fo : Nat → S) (k many : Nat), st.2.1 = L ∧ st.2.2 = many ∧ 1 ≤ many ∧ many ≤ 11 ∧ WI P K hp hφ q m G M0 st.1 rest L fo k many 1) (fun st => (30 - st.2.2).toNat) (fun M' => ∃ rest' L' fo' k' many, WI P K hp hφ q m G M0 M' rest' L' fo' k' many 1 ∧ pc (tb L') m < 2 * many) (fun st hst => by
    obtain ⟨M1, y, mI⟩ := st
    obtain ⟨rest, L, fo, k, many, hy, hmI, hm1, hm11, hW⟩ := hst
    dsimp only at hy hmI hW
    subst hy
    subst hmI
    have hL2 : L < 2 ^ m := hW.2.2.2.2.2.2.2
    have hb2 : f_X8_bits n L = some ((pc (tb L) m : Nat) : Int) := by rw [s_bits (by omega) hn, pc_bit hL2 hm10]
    have hpl := hpcm (tb L)
    unfold l_X8_factorWhole_111
    dsimp only
    rw [hb2, bs, gI_s (by omega) (by omega), bs]
    by_cases hlt : ((pc (tb L) m : Nat) : Int) < 2 * many
    · rw [if_pos hlt]
      exact Or.inl ⟨_, rfl, rest, L, fo, k, many, hW, by omega⟩
    · obtain ⟨M2, rest', L', fo', k', e2, hW2⟩ := s_joinI P K hp hφ (by omega) hm2 hod hirr hcop hmonq hGq hm10 hF0 hNF hXF hGF hGl hm1 (by omega) hW hn
      rw [if_neg hlt, e2, bs]
      obtain ⟨w1, w2, w3, w4, w5, w6, w7, w8⟩ := hW2
      exact Or.inr ⟨_, rfl, ⟨rest', L', fo', k', many + 1, rfl, by dsimp only; omega, by omega, by omega, w1, w2, w3, w4, w5, w6, rci_next P K hp hφ w7 (Nat.le_refl _), w8⟩, by dsimp only; omega⟩) n (M, (L : Int), 1) ⟨rest, L, fo, k, 1, rfl, rfl, by omega, by omega, h⟩ (by dsimp only; omega)
  exact ⟨M', rest', L', fo', k', many, hL, hW, hpc⟩
def RSG : List Nat := [2, 3, 4, 5, 7, 8, 9, 10, 11, 12, 13, 14, 15, 16, 17, 18, 19, 20, 24, 25, 26, 27, 28, 29, 30, 31, 32, 33, 34, 40, 41, 42, 43, 44, 45, 46, 47, 48, 49, 50]
theorem s_factorWhole {S : Type} [Lean.Grind.CommRing S] {co : S → Nat → Int} (P : isPol co) {M : MI} (hM : ok M) (hpb : ∀ k, k < 20 → M.2 37 k = PB k) {F G : S} (hF0 : nu co F ≠ 0) (hNF : nu co F ≤ 11) (hXF : ∀ i, nz (co F i) ≤ 9999) (hGF : dv G F) (hG : RZ co M 1 G) (hN2 : 2 ≤ nu co G) (hGp : prim co G) (hGl : 0 < co G (nu co G - 1)) (hG1 : isG P G (dr P G) 1) {n : Nat} (hn : 18446744073709551616 ≤ n) :
    ∃ M' k fo, f_X8_factorWhole n M = some M' ∧ ok M' ∧ chm RSG [10, 11] M M' ∧ FR co M' k fo ∧ (∀ i, i < k → irz co (fo i)) ∧ pdn fo k = G ∧ k ≤ 10 := by
  have hGF' := hGF
  obtain ⟨w, hw⟩ := hGF'
  have hFne : F ≠ 0 := fun z => hF0 ((nu_zero P).mpr z)
  have hGne := prim_ne P hGp
  have hw0 : w ≠ 0 := fun z => hFne (by rw [hw, z]; grind)
  have hnw0 : nu co w ≠ 0 := fun z => hw0 ((nu_zero P).mp z)
  have hNG' := nu_mul P int_D hGne hw0
  rw [← hw] at hNG'
  have hNG : nu co G ≤ 11 := by omega
  obtain ⟨hXG, -⟩ := bomb_dv P hF0 hNF (X := 9999) (by omega) hXF hw
  have hc0 := chm_fl (F := [10, 11]) M (i := 11) (by simp) 0
  have hok0 : ok (oI M 36 11 0) := ok_oI hM (by omega)
  have r0 := RZ_chm hG hc0 (by simp) (by omega)
  obtain ⟨M1, e1, hok1, hc1, p, R, T, I, J, ct, K, hp, φ, hφ, uu, c, hlo, hhi, hod, hm9, r12, hcne, huu, hnu, hmon, hsq⟩ := s_goodP P hok0 (fun k hk => by rw [oI_2, if_neg (by omega)]; exact hpb k hk) r0 hNG hN2 (fun i => hXG i) hG1 hn
  have hF := hp.2.2.1
  have hE := pol_EU K hF
  obtain ⟨M2, m, q, e2, ⟨hok2, hc2, hm92, hPC2, hirr⟩, hpd⟩ := s_factorModulo K hp hφ (by omega) hhi hod hok1 hm9 r12 hmon (by omega) (by omega) hsq hn
  have rG2 := RZ_chm (RZ_chm r0 hc1 (by simp) (by omega)) hc2 (by simp [RSF, RSP]) (by omega)
  obtain ⟨M3, e3, hok3, hc3, r3⟩ := s_copyZ hok2 (a := 1) (b := 19) (by omega) (by omega) rG2 (by omega) hn
  have e3' : f_X8_copy n 1 19 M2 = some M3 := e3
  have hPC3 := PC_chm hPC2 (chm_of (F := []) hc3) (fun s hs => by simp at hs; omega)
  have hm10 : m ≤ 10 := by
    have := (pdn_nu K hF (q := q) (m := m) (fun j hj => (hPC2.2 j hj).2.2.1)).1
    rw [hpd] at this
    omega
  have h1024 := pow_le10 hm10
  have hcop : ∀ i j, i < m → j < m → i ≠ j → cop (q i) (q j) := by
    have key : ∀ i j, i < j → j < m → cop (q i) (q j) := fun i j hij hj => irr_cop hE (hirr i (by omega)) (hirr j hj) (fun hd => by
      obtain ⟨x, hx⟩ := hd
      have h1 := pdn_two q hij hj
      rw [hpd] at h1
      obtain ⟨y, hy⟩ := h1
      exact hsq (q i) (hirr i (by omega)) ⟨x * y, by rw [hy, hx]; grind⟩)
    intro i j hi hj hij
    rcases Nat.lt_or_ge i j with z | z
    · exact key i j z hj
    · exact cop_symm (key j i (by omega) hi)
  have hGlp : ¬ (p : Int) ∣ co G (nu co G - 1) := lc_small P (f := G) (by omega) (p := p) (fun i => hXG i) (by omega)
  have hrdG : ∃ c', c' ≠ 0 ∧ rd P K hp hφ G = mo K c' 0 * pm q (tb (2 ^ m - 1)) m := by
    obtain ⟨d, hd0, hd1⟩ := mo_inv K hF hcne
    refine ⟨d, hd0, ?_⟩
    have h1 : pm q (tb (2 ^ m - 1)) m = pdn q m := pdn_congr (fun i hi => by
      have : tb (2 ^ m - 1) i = true := by unfold tb; rw [Nat.testBit_two_pow_sub_one]; exact decide_eq_true hi
      rw [this, if_pos rfl])
    rw [h1, hpd, huu]
    grind
  have hFR3 : FR co M3 0 (fun _ => (0 : S)) := ⟨by rw [hc3.2.1 36 11 (by omega), hc2.2.1 36 11 (by omega) (by simp), hc1.2.1 36 11 (by omega) (by simp), oI_2, if_pos ⟨rfl, rfl⟩]; rfl, fun i hi => absurd hi (by omega)⟩
  have hrci : rci P K hp hφ q m G G (2 ^ m - 1) (fun _ => (0 : S)) 0 1 1 := by
    refine ⟨fun i hi => absurd hi (by omega), by simp only [pdn]; grind, hGp, hGl, hrdG, fun b g b1 b2 b3 b4 b5 => ?_⟩
    rcases b4 with b4 | ⟨b4, b6⟩
    · omega
    · exfalso
      have e : b = 0 := by omega
      subst e
      obtain ⟨i, _, hi⟩ := pc_mem b2
      unfold tb at hi
      rw [Nat.zero_testBit] at hi
      exact absurd hi (by decide)
  have hpow := Nat.pow_pos (a := 2) (n := m) (by omega)
  have hW : WI P K hp hφ q m G M3 M3 G (2 ^ m - 1) (fun _ => (0 : S)) 0 1 1 := ⟨hok3, chm_refl _ _ _, by rw [hc3.1 36 9 (by omega)]; exact hm92, hPC3, r3, hFR3, hrci, by omega⟩
  obtain ⟨M4, rest, L, fo, k, many, e4, hW4, hpc⟩ := s_joinO P K hp hφ (by omega) hhi hod hirr hcop (fun i hi => (hPC3.2 i hi).2.1) (by rw [hpd]; omega) hm10 hF0 hNF hXF hGF hGlp hW hn
  obtain ⟨hok4, hc4, hm94, hPC4, r194, hFR4, hrci4, hL4⟩ := hW4
  obtain ⟨hirz, hprod, hprim, hpos, -, -⟩ := id hrci4
  have hr0 := prim_ne P hprim
  have hnr0 : nu co rest ≠ 0 := fun z => hr0 ((nu_zero P).mp z)
  have h1 := (pdn_nuZ P (q := fo) (m := k) (fun j hj => (hirz j hj).2.1))
  have h2 := nu_mul P int_D h1.2 hr0
  rw [hprod] at h2
  have hch4 : chm RSG [10, 11] M M4 := chm_mono (chm_trans (chm_mono hc0 (fun x hx => hx) (fun x hx => hx)) (chm_trans (chm_mono hc1 (fun x hx => hx) (fun x hx => by simp at hx)) (chm_trans (chm_mono hc2 (fun x hx => hx) (fun x hx => by simp at hx ⊢; omega)) (chm_trans (chm_of hc3) (chm_mono hc4 (fun x hx => hx) (fun x hx => by simp at hx ⊢; omega)))))) (fun x hx => by simp [RSF, RSP, RSW, RSG] at hx ⊢; omega) (fun x hx => hx)
  have hpm2 : M3.2 36 10 = m := hPC3.1
  have d43 : odI M4 42 19 = some ((nu co rest : Int) - 1) := by rw [odI_n (i := 19) 19 rfl rfl (by rw [k42.2]; omega)]; exact congrArg some r194.1
  have eL : ((2 ^ m : Nat) : Int) - 1 = ((2 ^ m - 1 : Nat) : Int) := by omega
  by_cases hle : (nu co rest : Int) - 1 ≤ 0
  · have hrest1 : rest = 1 := by
      rcases prim_c P hprim (by omega) with y | y
      · exact y
      · exfalso
        rw [y, show nu co (-1 : S) - 1 = 0 by rw [← y]; omega, p_neg P, p_one P, if_pos rfl] at hpos
        omega
    refine ⟨M4, k, fo, ?_, hok4, hch4, hFR4, hirz, by rw [← hprod, hrest1]; grind, by omega⟩
    unfold f_X8_factorWhole opI
    rw [bs, e1, bs, e2, bs, e3', bs, hpm2, oshlI1 (by omega), eL, e4, bs, d43, bs, gI_s (by omega) (by omega), bs, if_pos hle, bs]
  · have hirzr := rci_end P K hp hφ hirr hcop hrci4 hGlp hpc (by omega)
    obtain ⟨fo', hfo'⟩ : ∃ fo' : Nat → S, fo' = fun i => if i = k then rest else fo i := ⟨_, rfl⟩
    have f1 : fo' k = rest := by rw [hfo']; dsimp only; rw [if_pos rfl]
    have f2 : ∀ i, i < k → fo' i = fo i := fun i hi => by rw [hfo']; dsimp only; rw [if_neg (by omega)]
    obtain ⟨M5, e5, hok5, hc5, hFR5, -⟩ := s_keep hok4 (s := 19) (k := k) (by omega) (by omega) hFR4 (by omega) r194 (by omega) f1 f2 hn
    have e5' : f_X8_keep n 19 M4 = some M5 := e5
    refine ⟨M5, k + 1, fo', ?_, hok5, chm_mono (chm_trans hch4 (chm_mono hc5 (fun x hx => hx) (fun x hx => by simp at hx ⊢; omega))) (fun x hx => by simp [RSG] at hx ⊢; omega) (fun x hx => hx), hFR5, fun i hi => ?_, ?_, by omega⟩
    · unfold f_X8_factorWhole opI
      rw [bs, e1, bs, e2, bs, e3', bs, hpm2, oshlI1 (by omega), eL, e4, bs, d43, bs, gI_s (by omega) (by omega), bs, if_neg hle, e5', bs, bs]
    · rcases Nat.lt_or_ge i k with z | z
      · rw [f2 i z]; exact hirz i z
      · rw [show i = k by omega, f1]; exact hirzr
    · show pdn fo' k * fo' k = G
      rw [f1, pdn_congr (fun i hi => f2 i hi), hprod]
end MRefV
