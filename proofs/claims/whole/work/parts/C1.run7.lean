/-! the class's findFactors, run -/
section MRun7
theorem ko7_chF {As : List Nat} {M M' : MI} (h : chF As M M') (hs : ∀ x ∈ As, ¬ (36 ≤ x ∧ x ≤ 48)) : ko7 M M' := fun k i a b => ⟨h.1 k i (fun z => hs k z ⟨a, b⟩), h.2 k i (by omega) (by omega)⟩
theorem sm7_chF {As : List Nat} {M M' : MI} (h : chF As M M') : sm7 M M' := ⟨fun p j hp => h.2 _ _ (by omega) (by omega), fun i => h.2 _ _ (by omega) (by omega), fun i => h.2 _ _ (by omega) (by omega), h.2 _ _ (by omega) (by omega), h.2 _ _ (by omega) (by omega)⟩
theorem CZ_chS {S : Type} [Lean.Grind.CommRing S] {co : S → Nat → Int} {M M' : MI} {a : Nat} {f : S} {As : List Nat} (h : CZ co M a f) (hc : chS As M M') (ha : a ∉ As) : CZ co M' a f := ⟨fun i hi => by rw [hc.1 a i ha]; exact h.1 i hi, h.2⟩
theorem nu_1 {S : Type} [Lean.Grind.CommRing S] {co : S → Nat → Int} (P : isPol co) : nu co (1 : S) = 1 := nu_eq P (fun i hi => by rw [p_one P, if_neg (by omega)]) (fun _ => by rw [p_one P, if_pos (by omega)]; decide)
theorem pdn_irz {S : Type} [Lean.Grind.CommRing S] {co : S → Nat → Int} (P : isPol co) {π : S} (hπ : irz co π) {f : Nat → S} : ∀ {k : Nat}, dv π (pdn f k) → ∃ l, l < k ∧ dv π (f l)
  | 0, h => by
    exfalso
    have hone := nu_1 P
    have := z_le P (show dv π (1 : S) from h) (fun z => by rw [(nu_zero P).mpr z] at hone; omega)
    have := hπ.2.1
    omega
  | k + 1, h => by
    rcases irz_dv P hπ (show dv π (pdn f k * f k) from h) with z | z
    · obtain ⟨l, hl, e⟩ := pdn_irz P hπ z
      exact ⟨l, by omega, e⟩
    · exact ⟨k, by omega, z⟩
theorem c_findFactors {S : Type} [Lean.Grind.CommRing S] {co : S → Nat → Int} (P : isPol co) {M : MI} (hM : ok M) {F : S} (cF : CZ co M 10 F) (hF0 : nu co F ≠ 0) (hXF : ∀ i, nz (co F i) ≤ 9999) (hFp : prim co F) (hFl : 0 < co F (nu co F - 1)) {n : Nat} (hn : 18446744073709551616 ≤ n) :
    ∃ M' k fo es, f_X2_findFactors n 10 M = some M' ∧ ok M' ∧ ko7 M M' ∧ sm7 M M' ∧ FRc co M' k fo ∧ (∀ i, i < k → M'.2 27 i = (es i : Nat)) ∧ FSet P F k fo es ∧ k ≤ 10 ∧ k + 1 ≤ nu co F := by
  have r10 : row 10 := ⟨rfl, rfl⟩
  have r28 : row 28 := ⟨rfl, rfl⟩
  have r29 : row 29 := ⟨rfl, rfl⟩
  have hNF := cF.2
  have hFne := prim_ne P hFp
  obtain ⟨M1, hM1⟩ : ∃ M1, M1 = oI M 5 2 0 := ⟨_, rfl⟩
  have hopI : opI M 5 2 0 = some M1 := by rw [hM1]; rfl
  have hok1 : ok M1 := by rw [hM1]; exact ok_oI hM (by omega)
  have hko1 : ko7 M M1 := by rw [hM1]; exact fun k i a b => ⟨rfl, by rw [oI_2, if_neg (by omega)]⟩
  have hsm1 : sm7 M M1 := by
    rw [hM1]
    exact ⟨fun p j hp => by rw [oI_2, if_neg (by omega)], fun i => by rw [oI_2, if_neg (by omega)], fun i => by rw [oI_2, if_neg (by omega)], by rw [oI_2, if_neg (by omega)], by rw [oI_2, if_neg (by omega)]⟩
  have h521 : M1.2 5 2 = 0 := by rw [hM1, oI_2, if_pos ⟨rfl, rfl⟩]
  have cF1 : CZ co M1 10 F := by rw [hM1]; exact cF
  have hd1 := c_degree P hok1 r10 cF1 hn
  by_cases h1 : nu co F = 1
  · refine ⟨M1, 0, fun _ => 0, fun _ => 0, ?_, hok1, hko1, hsm1, ⟨h521, fun i hi => absurd hi (by omega)⟩, fun i hi => absurd hi (by omega), ⟨fun i hi => absurd hi (by omega), fun π hπ hd => absurd hd (no_irz1 P h1 hπ), fun a b _ hb => absurd hb (by omega)⟩, by omega, by omega⟩
    unfold f_X2_findFactors
    rw [hopI, bs, hd1, bs, gI_s (by omega) (by omega), bs, if_neg (by omega)]
  · obtain ⟨M2, g, G, kk, e2, hok2, hc2, c28, hg, hFG, hNG, hGp, hGl, xG, hkk, hm2, hGn, R, T, I, J, ct, φ, K, hp, hφ, hsqG⟩ := c_takeSq P hok1 cF1 (by omega) hXF hFp hFl hn
    obtain ⟨pr, pod, plo, phi, -⟩ := prp_prm kk hkk
    have hF := hp.2.2.1
    have hE := pol_EU K hF
    have hone : (1 : T) ≠ 0 := fun z => by
      have := p_one K (S := T) 0
      rw [z, p_zero K, if_pos rfl] at this
      exact hF.1 this.symm
    have hNG2 := c28.2
    have hrN := rd_N P K hp hφ hGn
    have hr0 : rd P K hp hφ G ≠ 0 := fun z => by rw [(nu_zero K).mpr z] at hrN; omega
    obtain ⟨M3, c, e3, hok3, hc3, c29, hcne, hcinv, n3⟩ := c_makeMonic K hp hφ hok2 (a := 28) (b := 29) r28 r29 hm2 (by omega) (f := rd P K hp hφ G) (fun i hi => by rw [c28.1 i hi, rd_co P K hp hφ]) (by omega) (fun i hi => by rw [c28.1 i hi]; have := nz_le.mp (xG i); omega) hn
    have hlc := hcinv hr0
    have hmon0 : ct (mo K c 0 * rd P K hp hφ G) (nu ct (mo K c 0 * rd P K hp hφ G) - 1) = 1 := by rw [n3, mo_0 K, ← hlc]; grind
    have hrd0 : rd P K hp hφ G = mo K (ct (rd P K hp hφ G) (nu ct (rd P K hp hφ G) - 1)) 0 * (mo K c 0 * rd P K hp hφ G) := p_ext K (fun i => by
      rw [mo_0 K, mo_0 K]
      generalize ct (rd P K hp hφ G) (nu ct (rd P K hp hφ G) - 1) = l at hlc ⊢
      generalize ct (rd P K hp hφ G) i = x
      have : l * (c * x) = (l * c) * x := by grind
      rw [this, hlc]; grind)
    have hl0 : ct (rd P K hp hφ G) (nu ct (rd P K hp hφ G) - 1) ≠ 0 := fun z => by
      rw [z] at hlc
      have : (0 : R) * c = 0 := by grind
      rw [this] at hlc
      exact hF.1 hlc.symm
    obtain ⟨l, hl⟩ : ∃ l, l = ct (rd P K hp hφ G) (nu ct (rd P K hp hφ G) - 1) := ⟨_, rfl⟩
    rw [← hl] at hrd0 hl0
    obtain ⟨f, hf⟩ : ∃ f, f = mo K c 0 * rd P K hp hφ G := ⟨_, rfl⟩
    rw [← hf] at n3 c29 hmon0 hrd0
    have hN2f : 2 ≤ nu ct f := by omega
    have hf0 : f ≠ 0 := fun z => by rw [(nu_zero K).mpr z] at hN2f; omega
    have hsq : sqf (nu ct) f := fun σ hσ hd => hsqG σ hσ (by rw [hrd0]; exact dv_mull _ hd)
    have hm3 : M3.1 1 0 = prp kk := by rw [hc3.2 1 0 (by simp)]; exact hm2
    obtain ⟨M4, B, k, e4, hok4, hc4, h42, h41, hIsB, hBc, hk1, hk10, hB0⟩ := c_findFixed K hp hφ (by omega) hok3 (a := 29) r29 (by omega) (by omega) hm3 c29 hN2f hmon0 hn
    have c294 := CP_chS c29 hc4 (by decide)
    have hm4 : M4.1 1 0 = prp kk := by rw [hc4.1 1 0 (by decide)]; exact hm3
    obtain ⟨M5, m, q, e5, hok5, hc5, h425, hPC, hpd, hirr, hm10⟩ := c_split K hp hφ (by omega) (by omega) hN2f hmon0 hsq hk10 hk1 hIsB hB0 hok4 hm4 (a := 29) r29 (by omega) c294 hBc h42 hn
    have c295 := CP_chS c294 hc5 (by decide)
    have hm5 : M5.1 1 0 = prp kk := by rw [hc5.1 1 0 (by decide)]; exact hm4
    have c285 : CZ co M5 28 G := CZ_chS (CZ_chS (CZ_ch c28 hc3 (by simp)) hc4 (by decide)) hc5 (by decide)
    have cF5 : CZ co M5 10 F := CZ_chS (CZ_chS (CZ_ch (CZ_ch cF1 hc2 (by simp)) hc3 (by simp)) hc4 (by decide)) hc5 (by decide)
    have h525 : M5.2 5 2 = 0 := by rw [hc5.2 5 2 (by omega) (by omega), hc4.2 5 2 (by omega) (by omega), hc3.1, hc2.1]; exact h521
    have hm1 : 1 ≤ m := by
      rcases Nat.eq_zero_or_pos m with z | z
      · exfalso
        rw [z] at hpd
        have h2 : nu ct (1 : T) = 1 := nu_eq K (fun i hi => by rw [p_one K, if_neg (by omega)]) (fun _ => by rw [p_one K, if_pos (by omega)]; exact hF.1)
        have h3 : (1 : T) = f := hpd
        rw [h3] at h2
        omega
      · exact z
    have hq0 : ∀ i, i < m → q i ≠ 0 := fun i hi z => by have := (hPC.2 i hi).2.2; rw [(nu_zero K).mpr z] at this; omega
    have hcopl : ∀ x y, x < y → y < m → cop (q x) (q y) := fun x y hxy hy => no_cop hE hone (hq0 x (by omega)) (fun σ hσ h1 h2 => by
      obtain ⟨u, hu⟩ := h1
      obtain ⟨v, hv⟩ := h2
      have h3 := pdn_two q hxy hy
      rw [hpd] at h3
      obtain ⟨w, hw⟩ := h3
      exact hsq σ hσ ⟨u * v * w, by rw [hw, hu, hv]; grind⟩)
    have hcop : ∀ i j, i < m → j < m → i ≠ j → cop (q i) (q j) := fun i j hi hj hij => by
      rcases Nat.lt_or_ge i j with z | z
      · exact hcopl i j z hj
      · obtain ⟨u, v, huv⟩ := hcopl j i (by omega) hi
        exact ⟨v, u, by rw [← huv]; grind⟩
    have hGF : dv G F := ⟨g, by rw [hFG]; grind⟩
    have hsqz : ∀ π, irz co π → ¬ dv (π * π) G := fun π h => sqz_no P hFne hg hFG h
    obtain ⟨M6, k6, fo, e6, hok6, hc6, hFR6, hirz, hpdG, hso, hk610⟩ := c_joinPieces P K hp hφ (by omega) (by omega) pod hok5 hm5 hm10 hm1 hPC hirr hcop hpd c295 hmon0 (F := F) (G := G) hF0 hNF hXF hGF hGp hGl hGn hsqz (c := l) hl0 hrd0 c285 h525 hn
    have cF6 : CZ co M6 10 F := CZ_chF cF5 hc6 (by decide)
    have hdv : ∀ j, j < k6 → dv (fo j) F := fun j hj => dv_trans (by rw [← hpdG]; exact pdn_mem fo hj) hGF
    have hinj : ∀ i j, i < j → j < k6 → fo i ≠ fo j := fun i j hij hj e => by
      have := hso i j hij hj
      rw [e] at this
      exact ltz_irr _ this
    obtain ⟨M7, es, e7, hok7, hc7, -, hFR7, hes⟩ := c_countM P hF0 hNF hXF hk610 hirz hdv hinj hok6 (a := 10) r10 cF6 hFR6 hn
    refine ⟨M7, k6, fo, es, ?_, hok7, ?_, ?_, hFR7, fun i hi => (hes i hi).1, ⟨fun i hi => ⟨hirz i hi, hdv i hi, (hes i hi).2⟩, fun π hπ hd => ?_, hso⟩, hk610, ?_⟩
    · unfold f_X2_findFactors
      rw [hopI, bs, hd1, bs, gI_s (by omega) (by omega), bs, if_pos (by omega), e2, bs, e3, bs, e4, bs, e5, bs, e6, bs, e7, bs]
    · exact ko7_trans hko1 (ko7_trans (ko7_ch hc2 (by simp)) (ko7_trans (ko7_ch hc3 (by simp)) (ko7_trans (ko7_chS hc4 (by decide)) (ko7_trans (ko7_chS hc5 (by decide)) (ko7_trans (ko7_chF hc6 (by decide)) (ko7_chF hc7 (by decide)))))))
    · exact sm7_trans hsm1 (sm7_trans (sm7_of (hc3.1.trans hc2.1)) (sm7_trans (sm7_chS hc4) (sm7_trans (sm7_chS hc5) (sm7_trans (sm7_chF hc6) (sm7_chF hc7)))))
    · have h2 := sqz_all P hFne hg hFG hπ hd
      rw [← hpdG] at h2
      obtain ⟨i, hi, e⟩ := pdn_irz P hπ h2
      exact ⟨i, hi, (irz_eq P hπ (hirz i hi) e).symm⟩
    · have h2 := (pdn_nuZ P (q := fo) (m := k6) (fun j hj => (hirz j hj).2.1)).1
      rw [hpdG] at h2
      have := z_le P hGF hFne
      omega
theorem c_runG {S : Type} [Lean.Grind.CommRing S] {co : S → Nat → Int} (P : isPol co) {M : MI} (hM : ok M) {k : Nat} (hk : k ≤ 10) {fo : Nat → S} (hFR : FRc co M k fo) {n : Nat} (hn : 18446744073709551616 ≤ n) : ∃ r, lpF (l_X7_run_68 n M) n 0 = some r ∧ ((r = .inr () ∧ ∀ i, i < k → sml co (fo i)) ∨ (r = .inl (.inr (-2, M)) ∧ ¬ ∀ i, i < k → sml co (fo i))) := by
  refine lp_do (step := l_X7_run_68 n M) (fun st => ∃ i : Nat, st = i ∧ i ≤ k ∧ ∀ j, j < i → sml co (fo j)) (fun st => (20 - st).toNat) _ (fun st hst => ?_) n 0 ⟨0, rfl, by omega, fun j hj => absurd hj (by omega)⟩ (by omega)
  obtain ⟨i, hi, hi1, hi2⟩ := hst
  subst hi
  unfold l_X7_run_68
  rw [hFR.1, gI_s (by omega) (by omega), bs]
  by_cases hle : (k : Int) ≤ i
  · rw [if_pos hle]
    exact Or.inl ⟨_, rfl, Or.inl ⟨rfl, fun j hj => hi2 j (by omega)⟩⟩
  · have ci := hFR.2 i (by omega)
    have ri : row (159 + i) := row_i (by omega)
    rw [if_neg hle, oA26 rfl (by omega), bs]
    rcases c_isTooGreat P hM (a := 159 + i) (N := 11) ri.1 ri.2 (by omega) (by omega) ci.1 ci.2 hn with ⟨h, e⟩ | ⟨h, e⟩
    · rw [e, bs, gI_s (by omega) (by omega), bs, if_pos rfl]
      refine Or.inr ⟨_, rfl, ⟨i + 1, by omega, by omega, fun j hj => ?_⟩, by omega⟩
      rcases Nat.lt_or_ge j i with z | z
      · exact hi2 j z
      · rw [show j = i by omega]; exact h
    · rw [e, bs, gI_s (by omega) (by omega), bs, if_neg (by omega)]
      exact Or.inl ⟨_, rfl, Or.inr ⟨rfl, fun z => h (z i (by omega))⟩⟩
theorem kept7_sm {S : Type} [Lean.Grind.CommRing S] {co : S → Nat → Int} {M M' M'' : MI} {g k : Nat} {fo : Nat → S} {es : Nat → Nat} (h : sm7 M M') (h1 : kept7 co M' M'' g k fo es) : kept7 co M M'' g k fo es :=
  ⟨h1.1, h1.2.1, fun q j hq hj => by rw [h1.2.2.1 q j hq hj, h.1 q j hq], fun i => by rw [h1.2.2.2.1 i, h.2.1 i], fun i => by rw [h1.2.2.2.2 i, h.2.2.1 i]⟩
theorem c_run7 {S : Type} [Lean.Grind.CommRing S] {co : S → Nat → Int} (P : isPol co) {M : MI} (hM : ok M) (hbd : bd7 M) {g : Nat} (hg : M.2 0 1 = g) (hg80 : g ≤ 80) {a : Int} (ha : inI a) {n : Nat} (hn : 18446744073709551616 ≤ n) : ∃ M', ok M' ∧ ko7 M M' ∧ ((¬ (0 ≤ a ∧ a < 80) ∧ tw7 1 M' (f_X7_run n a M) ∧ sm7 M M') ∨ ((0 ≤ a ∧ a < 80) ∧ nu co (po7 P M a.toNat) = 0 ∧ an7 (-1) M' (f_X7_run n a M) ∧ sm7 M M') ∨ ((0 ≤ a ∧ a < 80) ∧ 2 ≤ nu co (po7 P M a.toNat) ∧ 80 - (g : Int) < (nu co (po7 P M a.toNat) : Int) - 1 ∧ tw7 2 M' (f_X7_run n a M) ∧ sm7 M M') ∨ ((0 ≤ a ∧ a < 80) ∧ nu co (po7 P M a.toNat) ≠ 0 ∧ (nu co (po7 P M a.toNat) = 1 ∨ (nu co (po7 P M a.toNat) : Int) - 1 ≤ 80 - g) ∧ ∃ (F : S) (k : Nat) (fo : Nat → S) (es : Nat → Nat), po7 P M a.toNat = mo P (sc co (po7 P M a.toNat)) 0 * F ∧ sc co (po7 P M a.toNat) ≠ 0 ∧ FSet P F k fo es ∧ k ≤ 10 ∧ g + k ≤ 80 ∧ ((an7 (-2) M' (f_X7_run n a M) ∧ (¬ ∀ i, i < k → sml co (fo i)) ∧ sm7 M M') ∨ (an7 (k : Nat) M' (f_X7_run n a M) ∧ (∀ i, i < k → sml co (fo i)) ∧ kept7 co M M' g k fo es)))) := by
  unfold tw7 an7 f_X7_run
  rw [c_reqP ha]
  by_cases h1 : 0 ≤ a ∧ a < 80
  · rw [if_pos h1, bs]
    dsimp only
    have r10 : row 10 := ⟨rfl, rfl⟩
    obtain ⟨M1, e1, hok1, hc1, cA⟩ := c_loadZ P hM (p := a.toNat) (a := 10) (by omega) r10 (by omega) hn
    rw [show ((a.toNat : Nat) : Int) = a by omega] at e1
    have xA := po7_X P hbd (p := a.toNat) (by omega)
    obtain ⟨A, hA⟩ : ∃ A, po7 P M a.toNat = A := ⟨_, rfl⟩
    rw [hA] at xA cA ⊢
    have hNA := cA.2
    have hk1 : ko7 M M1 := ko7_ch hc1 (by simp)
    have hs1 : sm7 M M1 := sm7_of hc1.1
    rw [e1, bs, c_degree P hok1 r10 cA hn, bs, hc1.1, hg, gI_s (by omega) (by omega), bs]
    by_cases h0 : nu co A = 0
    · refine ⟨M1, hok1, hk1, Or.inr (Or.inl ⟨h1, h0, ?_, hs1⟩)⟩
      rw [if_pos (by omega), gI_s (by omega) (by omega), bs, if_neg (by omega)]
    · by_cases hroom : (nu co A : Int) - 1 ≤ 80 - (g : Int)
      · rw [if_pos hroom, gI_s (by omega) (by omega), bs, if_pos (by omega)]
        obtain ⟨M2, F, e2, hok2, hc2, cF, hF, hXF⟩ := c_makePrimitive P hok1 (a := 10) r10 cA (fun i => by have := xA i; omega) hn
        obtain ⟨-, hAF, hFp, hFl, hFN, hsc⟩ := hF.resolve_left (fun z => h0 z.1)
        obtain ⟨M3, k, fo, es, e3, hok3, hk3, hs3, hFR, hes, hFS, hk10, hkN⟩ := c_findFactors P hok2 cF (by omega) (fun i => by have := hXF i; have := xA i; omega) hFp hFl hn
        have hk3' : ko7 M M3 := ko7_trans hk1 (ko7_trans (ko7_ch hc2 (by simp)) hk3)
        have hs3' : sm7 M M3 := sm7_trans hs1 (sm7_trans (sm7_of hc2.1) hs3)
        have hg3 : M3.2 0 1 = g := by rw [hs3'.2.2.2.1]; exact hg
        rw [e2, bs, e3, bs]
        obtain ⟨r, eL, hr⟩ := c_runG P hok3 hk10 hFR hn
        rcases hr with ⟨hr, hsm⟩ | ⟨hr, hsm⟩
        · obtain ⟨M4, e4, hok4, hk4, hkp⟩ := c_keepFactors P hok3 hk10 hg3 (by omega) hFR hsm hes hn
          refine ⟨M4, hok4, ko7_trans hk3' hk4, Or.inr (Or.inr (Or.inr ⟨h1, h0, by omega, F, k, fo, es, hAF, hsc, hFS, hk10, by omega, Or.inr ⟨?_, hsm, kept7_sm hs3' hkp⟩⟩))⟩
          rw [eL, hr, bs]
          dsimp only
          rw [e4, bs, hkp.2.1]
        · refine ⟨M3, hok3, hk3', Or.inr (Or.inr (Or.inr ⟨h1, h0, by omega, F, k, fo, es, hAF, hsc, hFS, hk10, by omega, Or.inl ⟨?_, hsm, hs3'⟩⟩))⟩
          rw [eL, hr]; rfl
      · refine ⟨M1, hok1, hk1, Or.inr (Or.inr (Or.inl ⟨h1, by omega, by omega, ?_, hs1⟩))⟩
        rw [if_neg hroom]
  · rw [if_neg h1, bs]; exact ⟨M, hM, ko7_refl M, Or.inl ⟨h1, rfl, sm7_of rfl⟩⟩
end MRun7
