/-! the reference's times, content, squareFree, value -/
section MRop3
theorem s_timesI {S : Type} [Lean.Grind.CommRing S] {co : S → Nat → Int} (P : isPol co) {M : MI} (hM : ok M) {i : Nat} {f g Q : S} (hf : RZ co M 0 f) (hg : RZ co M 1 g) (hi : i < nu co f) (hNf : nu co f ≤ 11) (hNg : nu co g ≤ 11) (hXf : ∀ j, nz (co f j) ≤ 9999) (hXg : ∀ j, nz (co g j) ≤ 9999) (hQ : ∀ t : Nat, t + 1 < nu co f + nu co g → wv M 11 t = co Q t) (hQX : ∀ t, nz (co Q t) ≤ i * 100000000) {n : Nat} (hn : 18446744073709551616 ≤ n) : ∃ M', lpF (l_X8_times_95 i) n (M, 0) = some M' ∧ ok M' ∧ chg [11] M M' ∧ M'.2 = M.2 ∧ (∀ t : Nat, t + 1 < nu co f + nu co g → wv M' 11 t = co (Q + mo P (co f i) i * g) t) ∧ ∀ t, nz (co (Q + mo P (co f i) i * g) t) ≤ (i + 1 : Nat) * 100000000 := by
  have hd : M.2 42 1 = (nu co g : Int) - 1 := hg.1
  obtain ⟨V, hV⟩ : ∃ V : Nat → Int, V = fun t => co (Q + mo P (co f i) i * g) (i + t) := ⟨_, rfl⟩
  have hbd : ∀ t, nz (co (Q + mo P (co f i) i * g) t) ≤ (i + 1 : Nat) * 100000000 := fun t => by
    rw [p_add P, mo_mul P]
    have h1 := hQX t
    have h2 : nz (if i ≤ t then co f i * co g (t - i) else 0) ≤ 99980001 := by
      split
      · have := nz_mul_le (hXf i) (hXg (t - i)); omega
      · decide
    unfold nz at *
    omega
  have hL : lpF (l_X8_times_95 i) n (M, 0) = some (wrM M 41 (264 + i) (nu co g) V) := by
    have e := lp_for (step := l_X8_times_95 i) (fun j => (wrM M 41 (264 + i) j V, (j : Int))) (wrM M 41 (264 + i) (nu co g) V) (nu co g) n (fun j hj => by
      have w1 : (wrM M 41 (264 + i) j V).1 41 (264 + i + j) = co Q (i + j) := by rw [wrM_1, if_neg (by omega), ← hQ (i + j) (by omega)]; show _ = M.1 41 (24 * 11 + (i + j)); rw [show 24 * 11 + (i + j) = 264 + i + j by omega]
      have w2 : (wrM M 41 (264 + i) j V).1 41 (0 + i) = co f i := by rw [wrM_1, if_neg (by omega), ← hf.2 i hi]
      have w3 : (wrM M 41 (264 + i) j V).1 41 (24 + j) = co g j := by rw [wrM_1, if_neg (by omega), ← hg.2 j hj]
      have eV : co Q (i + j) + co f i * co g j = V j := by rw [hV]; dsimp only; rw [p_add P, mo_mul P, if_pos (by omega), show i + j - i = j by omega]
      unfold l_X8_times_95
      dsimp only
      rw [odI_n (i := 1) 1 rfl rfl (by rw [k42.2]; omega), bs, show (wrM M 41 (264 + i) j V).2 = M.2 from rfl, hd, gI_s (by omega) (by omega), bs, if_neg (by omega), odJ_n (264 + i + j) rfl (by omega) (by rw [k41.2]; omega), bs, w1, odJ_n (0 + i) rfl (by omega) (by rw [k41.2]; omega), bs, w2, odJ_n (24 + j) rfl (by omega) (by rw [k41.2]; omega), bs, w3, osJ_n (264 + i + j) rfl (by omega) (by rw [k41.2]; omega), bs, eV, wrM_s]
      rfl) (by
      unfold l_X8_times_95
      dsimp only
      rw [odI_n (i := 1) 1 rfl rfl (by rw [k42.2]; omega), bs, show (wrM M 41 (264 + i) (nu co g) V).2 = M.2 from rfl, hd, gI_s (by omega) (by omega), bs, if_pos (by omega)]) (by omega)
    rw [wrM_0] at e
    exact e
  refine ⟨_, hL, ok_wrM hM (fun j _ => ?_), chg_win (s := 11) rfl (fun k i h => by rw [wrM_1, if_neg (by omega)]), rfl, fun t ht => ?_, hbd⟩
  · have := hbd (i + j)
    rw [hV]; dsimp only
    unfold nz at this
    omega
  · show (wrM M 41 (264 + i) (nu co g) V).1 41 (24 * 11 + t) = _
    rw [wrM_1]
    by_cases z : i ≤ t ∧ t < i + nu co g
    · rw [if_pos (by omega), hV]; dsimp only; rw [show i + (24 * 11 + t - (264 + i)) = t by omega]
    · rw [if_neg (by omega), show M.1 41 (24 * 11 + t) = wv M 11 t from rfl, hQ t ht, p_add P, mo_mul P]
      by_cases y : i ≤ t
      · rw [if_pos y, nu_hi P g (by omega)]; omega
      · rw [if_neg y]; omega
theorem s_timesP {S : Type} [Lean.Grind.CommRing S] {co : S → Nat → Int} (P : isPol co) {M : MI} (hM : ok M) {f g : S} (hf : RZ co M 0 f) (hg : RZ co M 1 g) (hNf : nu co f ≤ 11) (hNg : nu co g ≤ 11) (hXf : ∀ j, nz (co f j) ≤ 9999) (hXg : ∀ j, nz (co g j) ≤ 9999) {n : Nat} (hn : 18446744073709551616 ≤ n) : ∃ t M12 M26 M', (Option.bind (odI M 42 (0)) fun v3 => Option.bind (gI v3 0) fun _ => if v3 < 0 then some (-1) else Option.bind (odI M 42 (1)) fun v4 => Option.bind (gI v4 0) fun _ => if 0 ≤ v4 then Option.bind (odI M 42 (0)) fun v5 => Option.bind (odI M 42 (1)) fun v6 => some (v5 + v6) else some (-1)) = some t ∧ lpF (l_X8_times_50 t) n (M, 0) = some M12 ∧ lpF (l_X8_times_77 n t) n (M12, 0) = some M26 ∧ f_X8_trim n 11 t M26 = some M' ∧ ok M' ∧ chg [11] M M' ∧ RZ co M' 11 (f * g) ∧ ∀ i, nz (co (f * g) i) ≤ 1100000000 := by
  have d0 : odI M 42 0 = some ((nu co f : Int) - 1) := by rw [odI_n (i := 0) 0 rfl rfl (by rw [k42.2]; omega)]; exact congrArg some hf.1
  have d1 : odI M 42 1 = some ((nu co g : Int) - 1) := by rw [odI_n (i := 1) 1 rfl rfl (by rw [k42.2]; omega)]; exact congrArg some hg.1
  obtain ⟨t, ht⟩ : ∃ t : Int, t = (if nu co f = 0 ∨ nu co g = 0 then -1 else (nu co f : Int) + nu co g - 2) := ⟨_, rfl⟩
  have ht1 : -1 ≤ t ∧ t ≤ 20 := by rw [ht]; split <;> omega
  have e7 : (Option.bind (odI M 42 (0)) fun v3 => Option.bind (gI v3 0) fun _ => if v3 < 0 then some (-1) else Option.bind (odI M 42 (1)) fun v4 => Option.bind (gI v4 0) fun _ => if 0 ≤ v4 then Option.bind (odI M 42 (0)) fun v5 => Option.bind (odI M 42 (1)) fun v6 => some (v5 + v6) else some (-1)) = some t := by
    rw [d0, bs, gI_s (by omega) (by omega), bs, ht]
    by_cases z1 : nu co f = 0
    · rw [if_pos (by omega), if_pos (Or.inl z1)]
    · rw [if_neg (by omega), d1, bs, gI_s (by omega) (by omega), bs]
      by_cases z2 : nu co g = 0
      · rw [if_neg (by omega), if_pos (Or.inr z2)]
      · rw [if_pos (by omega), bs, bs, if_neg (by omega)]
        congr 1; omega
  obtain ⟨T, hT⟩ : ∃ T : Nat, T = (t + 1).toNat := ⟨_, rfl⟩
  have hZ : lpF (l_X8_times_50 t) n (M, 0) = some (wrM M 41 264 T (fun _ => 0)) := by
    have e := lp_for (step := l_X8_times_50 t) (fun j => (wrM M 41 264 j (fun _ => 0), (j : Int))) (wrM M 41 264 T (fun _ => 0)) T n (fun j hj => by
      unfold l_X8_times_50
      dsimp only
      rw [gI_s (by omega) (by omega), bs, if_neg (by omega), osJ_n (264 + j) rfl (by omega) (by rw [k41.2]; omega), bs]
      have := wrM_s M 41 264 j (fun _ => 0)
      rw [this]
      rfl) (by
      unfold l_X8_times_50
      dsimp only
      rw [gI_s (by omega) (by omega), bs, if_pos (by omega)]) (by omega)
    rw [wrM_0] at e
    exact e
  have hok2 : ok (wrM M 41 264 T (fun _ => 0)) := ok_wrM hM (fun _ _ => by omega)
  have hc2 : chg [11] M (wrM M 41 264 T (fun _ => 0)) := chg_win (s := 11) rfl (fun k i h => by rw [wrM_1, if_neg (by omega)])
  have hf2 := RZ_chg hf hc2 (by simp) (by omega)
  have hg2 := RZ_chg hg hc2 (by simp) (by omega)
  have d02 : odI (wrM M 41 264 T (fun _ => 0)) 42 0 = some ((nu co f : Int) - 1) := d0
  have hmid : ∃ M26, lpF (l_X8_times_77 n t) n (wrM M 41 264 T (fun _ => 0), 0) = some M26 ∧ ok M26 ∧ chg [11] M M26 ∧ (∀ j : Nat, (j : Int) ≤ t → wv M26 11 j = co (f * g) j) ∧ (∀ i, nz (co (f * g) i) ≤ 1100000000) ∧ (∀ j : Nat, t < j → co (f * g) j = 0) := by
    by_cases z : nu co f = 0 ∨ nu co g = 0
    · rw [if_pos z] at ht
      have hfg : f * g = 0 := by
        rcases z with z | z
        · rw [(nu_zero P).mp z]; grind
        · rw [(nu_zero P).mp z]; grind
      refine ⟨_, lp_for (fun _ => (wrM M 41 264 T (fun _ => 0), (0 : Int))) _ 0 n (fun k hk => absurd hk (by omega)) ?_ (by omega), hok2, hc2, fun j hj => by omega, fun i => by rw [hfg, p_zero P]; decide, fun j _ => by rw [hfg]; exact p_zero P j⟩
      unfold l_X8_times_77
      dsimp only
      rw [d02, bs, gI_s (by omega) (by omega), bs]
      by_cases y : (nu co f : Int) - 1 < 0
      · rw [if_pos y]
      · rw [if_neg y, gI_s (by omega) (by omega), bs, if_pos (by omega)]
    · rw [if_neg z] at ht
      obtain ⟨M26, hL, h1, h2, h3, h4⟩ := lp_do (step := l_X8_times_77 n t) (fun st => ok st.1 ∧ chg [11] M st.1 ∧ ∃ i : Nat, st.2 = i ∧ i ≤ nu co f ∧ (∀ t : Nat, t + 1 < nu co f + nu co g → wv st.1 11 t = co (pt P f i * g) t) ∧ ∀ t, nz (co (pt P f i * g) t) ≤ i * 100000000) (fun st => (30 - st.2).toNat) (fun M' => ok M' ∧ chg [11] M M' ∧ (∀ t : Nat, t + 1 < nu co f + nu co g → wv M' 11 t = co (f * g) t) ∧ ∀ t, nz (co (f * g) t) ≤ 1100000000) (fun st hst => by
        obtain ⟨M1, y⟩ := st
        obtain ⟨k1, k2, i, hy, hi, hw, hX⟩ := hst
        dsimp only at k1 k2 hy hw
        subst hy
        have rf := RZ_chg hf k2 (by simp) (by omega)
        have rg := RZ_chg hg k2 (by simp) (by omega)
        have dd : odI M1 42 0 = some ((nu co f : Int) - 1) := by rw [odI_n (i := 0) 0 rfl rfl (by rw [k42.2]; omega)]; exact congrArg some rf.1
        unfold l_X8_times_77
        dsimp only
        rw [dd, bs, gI_s (by omega) (by omega), bs]
        by_cases hlt : (nu co f : Int) - 1 < i
        · rw [if_pos hlt]
          have e : i = nu co f := by omega
          rw [e, pt_all] at hw hX
          exact Or.inl ⟨_, rfl, k1, k2, hw, fun t => by have := hX t; omega⟩
        · obtain ⟨M2, e2, hok2, hc2, -, hw2, hX2⟩ := s_timesI P k1 (i := i) rf rg (by omega) hNf hNg hXf hXg hw hX hn
          have hpt : pt P f (i + 1) = pt P f i + mo P (co f i) i := rfl
          have hpe : pt P f (i + 1) * g = pt P f i * g + mo P (co f i) i * g := by rw [hpt]; grind
          rw [if_neg hlt, gI_s (by omega) (by omega), bs, if_neg (by omega), e2, bs]
          exact Or.inr ⟨_, rfl, ⟨hok2, chg_mono (chg_trans k2 hc2) (fun x hx => by simpa using hx), i + 1, by dsimp only; omega, by omega, fun t ht => by rw [hpe]; exact hw2 t ht, fun t => by rw [hpe]; exact hX2 t⟩, by dsimp only; omega⟩) n (wrM M 41 264 T (fun _ => 0), 0) ⟨hok2, hc2, 0, rfl, by omega, fun t ht => by
          have : pt P f 0 = 0 := rfl
          rw [this, show (0 : S) * g = 0 by grind, p_zero P]
          show (wrM M 41 264 T (fun _ => 0)).1 41 (24 * 11 + t) = 0
          rw [wrM_1, if_pos (by omega)], fun t => by
          have : pt P f 0 = 0 := rfl
          rw [this, show (0 : S) * g = 0 by grind, p_zero P]; decide⟩ (by dsimp only; omega)
      exact ⟨M26, hL, h1, h2, fun j hj => h3 j (by omega), h4, fun j hj => mul_hi P (fun i hi => nu_hi P f hi) (fun i hi => nu_hi P g hi) j (by omega)⟩
  obtain ⟨M26, e26, hok26, hc26, hw26, hX26, hhi⟩ := hmid
  obtain ⟨t1, t2, t3⟩ := s_trimZ P hok26 (s := 11) (by omega) (t := t) (by omega) (by omega) (f := f * g) hw26 hhi hn
  exact ⟨t, _, M26, _, e7, hZ, e26, t1, t3, chg_mono (chg_trans hc26 (chg_oI _)) (fun x hx => by simpa using hx), t2, hX26⟩
theorem s_times8 {S : Type} [Lean.Grind.CommRing S] {co : S → Nat → Int} (P : isPol co) {M : MI} (hM : ok M) (hbd : bd8 M) {g : Nat} (hg : M.2 36 2 = g) (hg80 : g ≤ 80) {a b : Int} (ha : inI a) (hb : inI b) {n : Nat} (hn : 18446744073709551616 ≤ n) : ∃ r M', f_X8_times n a b M = some (r, M') ∧ ok M' ∧ ko M M' ∧ ((¬ (0 ≤ a ∧ a < 80 ∧ 0 ≤ b ∧ b < 80) ∧ M'.2 36 3 = 1 ∧ sm8 M M') ∨ ((0 ≤ a ∧ a < 80 ∧ 0 ≤ b ∧ b < 80) ∧ g = 80 ∧ M'.2 36 3 = 2 ∧ sm8 M M') ∨ ((0 ≤ a ∧ a < 80 ∧ 0 ≤ b ∧ b < 80) ∧ g < 80 ∧ ((¬ sml co (po8 P M a.toNat * po8 P M b.toNat) ∧ M'.2 36 3 = 3 ∧ sm8 M M') ∨ (sml co (po8 P M a.toNat * po8 P M b.toNat) ∧ M'.2 36 3 = 0 ∧ r = g ∧ app8 M M' (co (po8 P M a.toNat * po8 P M b.toNat)))))) := by
  obtain ⟨r0, M1, e1, hok1, hko1, hsm1, h1⟩ := s_refuses P hM hg hg80 ha hb hn
  rcases h1 with ⟨hbad, hr, ht⟩ | ⟨hgood, hfull, hr, ht⟩ | ⟨hgood, hfree, hr, ht, rA, rB⟩
  · refine ⟨0, M1, ?_, hok1, hko1, Or.inl ⟨hbad, ht, hsm1⟩⟩
    unfold f_X8_times
    rw [e1, bs]; dsimp only
    rw [hr, gI_s (by omega) (by omega), bs, if_neg (by omega)]
  · refine ⟨0, M1, ?_, hok1, hko1, Or.inr (Or.inl ⟨hgood, hfull, ht, hsm1⟩)⟩
    unfold f_X8_times
    rw [e1, bs]; dsimp only
    rw [hr, gI_s (by omega) (by omega), bs, if_neg (by omega)]
  · subst hr
    have nB := po8_N P M b.toNat
    have nA := po8_N P M a.toNat
    have xA := po8_X P hbd (p := a.toNat) (by omega)
    have xB := po8_X P hbd (p := b.toNat) (by omega)
    obtain ⟨A, hA⟩ : ∃ A, po8 P M a.toNat = A := ⟨_, rfl⟩
    obtain ⟨B, hB⟩ : ∃ B, po8 P M b.toNat = B := ⟨_, rfl⟩
    rw [hA] at nA xA rA ⊢
    rw [hB] at nB xB rB ⊢
    obtain ⟨t, M12, M26, M2, e7, e12, e26, e27, hok2, hc2, r2, hX⟩ := s_timesP P hok1 rA rB nA nB xA xB hn
    have nAB : nu co (A * B) ≤ 24 := nu_le P (fun i hi => mul_hi P (fun i hi => nu_hi P A hi) (fun i hi => nu_hi P B hi) i (by omega))
    obtain ⟨g1, g2⟩ := s_great P hok2 (s := 11) (by omega) r2 nAB (fun i => by have := nz_le.mp (hX i); omega) hn
    have hko2 : ko M M2 := ko_trans hko1 (ko_chm (F := []) (chm_of hc2))
    have hsm2 : sm8 M M2 := sm8_trans hsm1 (sm8_chm (F := []) (chm_of hc2) (by simp) (by simp))
    have pre : ∀ X, (f_X8_times n a b M = some X) = ((Option.bind (f_X8_great n (11) M2) fun v28 => Option.bind (Option.bind (gI v28 0) fun _ => if v28 = 0 then some (0) else some (3)) fun v29 => Option.bind (opI M2 36 3 v29) fun v30 => Option.bind (Option.bind (gI (v30.2 36 3) 0) fun _ => if (v30.2 36 3) = 0 then Option.bind (f_X8_store n (11) v30) fun (v31, M32) => some (M32, v31) else some (v30, (0))) fun (M33, v34) => some (v34, M33)) = some X) := fun X => by
      unfold f_X8_times
      rw [e1, bs]; dsimp only
      rw [gI_s (by omega) (by omega), bs, if_pos rfl]
      have e7' : (Option.bind (odI M1 42 (0)) fun v3 => Option.bind (Option.bind (gI v3 0) fun _ => if v3 < 0 then some (-1) else Option.bind (odI M1 42 (1)) fun v4 => Option.bind (gI v4 0) fun _ => if 0 ≤ v4 then Option.bind (odI M1 42 (0)) fun v5 => Option.bind (odI M1 42 (1)) fun v6 => some (v5 + v6) else some (-1)) fun v7 => some v7) = some t := by
        rw [← e7]
        cases odI M1 42 0 with
        | none => rfl
        | some v => simp
      have d0 : odI M1 42 0 = some ((nu co A : Int) - 1) := by rw [odI_n (i := 0) 0 rfl rfl (by rw [k42.2]; omega)]; exact congrArg some rA.1
      rw [d0, bs] at e7 ⊢
      rw [e7, bs, e12, bs, e26, bs, e27, bs]
    by_cases hs : sml co (A * B)
    · have g1' : f_X8_great n 11 M2 = some 0 := g1 hs
      have hok3 : ok (oI M2 36 3 0) := ok_oI hok2 (by omega)
      obtain ⟨M4, e4, hok4, hko4, ha4, ht4⟩ := s_keepR hok3 (s := 11) (g := g) (by omega) (by rw [oI_2, if_neg (by omega), hsm2.2.2.2.1]; exact hg) hfree (v := co (A * B)) (fun k _ => RZ_v P (RZ_fl r2 3 0) k) (fun k _ => by have := nz_le.mp (hs.2 k); omega) hn
      have e4' : f_X8_store n 11 (oI M2 36 3 0) = some ((g : Int), M4) := e4
      refine ⟨g, M4, ?_, hok4, ko_trans hko2 (ko_trans (ko_oI M2 (a := 36) (by omega) 3 0) hko4), Or.inr (Or.inr ⟨hgood, hfree, Or.inr ⟨hs, by rw [ht4]; exact th_fl M2 0, rfl, app8_sm (sm8_trans hsm2 (sm8_fl M2 (by omega) (by omega) 0)) ha4⟩⟩)⟩
      rw [pre, g1', bs, gI_s (by omega) (by omega), bs, if_pos rfl, bs]
      unfold opI
      rw [bs, th_fl, gI_s (by omega) (by omega), bs, if_pos rfl, e4', bs, bs]
    · have g2' : f_X8_great n 11 M2 = some 1 := g2 hs
      refine ⟨0, oI M2 36 3 3, ?_, ok_oI hok2 (by omega), ko_trans hko2 (ko_oI M2 (a := 36) (by omega) 3 3), Or.inr (Or.inr ⟨hgood, hfree, Or.inl ⟨hs, th_fl M2 3, sm8_trans hsm2 (sm8_fl M2 (by omega) (by omega) 3)⟩⟩)⟩
      rw [pre, g2', bs, gI_s (by omega) (by omega), bs, if_neg (by omega), bs]
      unfold opI
      rw [bs, th_fl, gI_s (by omega) (by omega), bs, if_neg (by omega), bs]
end MRop3
