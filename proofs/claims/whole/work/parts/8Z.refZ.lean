/-! run, the reference's: what it answers and keeps -/
section MRefZ
theorem k39 : kd 39 = 1 ∧ kn 39 = 10 := ⟨rfl, rfl⟩
theorem k40 : kd 40 = 1 ∧ kn 40 = 10 := ⟨rfl, rfl⟩
def kept {S : Type} [Lean.Grind.CommRing S] (co : S → Nat → Int) (M M' : MI) (g k : Nat) (fo : Nat → S) (es : Nat → Nat) : Prop := M'.2 36 2 = ((g + k : Nat) : Int) ∧ M'.2 36 4 = (k : Nat) ∧ (∀ q j, j < 11 → M'.2 38 (11 * q + j) = if g ≤ q ∧ q < g + k then co (fo (q - g)) j else M.2 38 (11 * q + j)) ∧ (∀ i, M'.2 39 i = if i < k then ((g + i : Nat) : Int) else M.2 39 i) ∧ (∀ i, M'.2 40 i = if i < k then ((es i : Nat) : Int) else M.2 40 i)
theorem s_runG {S : Type} [Lean.Grind.CommRing S] {co : S → Nat → Int} (P : isPol co) {M : MI} (hM : ok M) {k : Nat} (hk : k ≤ 10) {fo : Nat → S} (hFR : FR co M k fo) (hX : ∀ i, i < k → ∀ j, nz (co (fo i) j) ≤ 979902) {n : Nat} (hn : 18446744073709551616 ≤ n) : ∃ r, lpF (l_X8_run_110 n M) n 0 = some r ∧ ((r = .inr () ∧ ∀ i, i < k → sml co (fo i)) ∨ (r = .inl (-2, M) ∧ ¬ ∀ i, i < k → sml co (fo i))) := by
  refine lp_do (step := l_X8_run_110 n M) (fun st => ∃ i : Nat, st = i ∧ i ≤ k ∧ ∀ j, j < i → sml co (fo j)) (fun st => (20 - st).toNat) _ (fun st hst => ?_) n 0 ⟨0, rfl, by omega, fun j hj => absurd hj (by omega)⟩ (by omega)
  obtain ⟨i, hi, hi1, hi2⟩ := hst
  subst hi
  unfold l_X8_run_110
  rw [hFR.1, gI_s (by omega) (by omega), bs]
  by_cases hle : (k : Int) ≤ i
  · rw [if_pos hle]
    exact Or.inl ⟨_, rfl, Or.inl ⟨rfl, fun j hj => hi2 j (by omega)⟩⟩
  · obtain ⟨ri, ni⟩ := hFR.2 i (by omega)
    obtain ⟨g1, g2⟩ := s_great P hM (s := 40 + i) (by omega) ri (by omega) (fun j => by have := nz_le.mp (hX i (by omega) j); omega) hn
    have e40 : (40 : Int) + i = ((40 + i : Nat) : Int) := by omega
    rw [if_neg hle, e40]
    by_cases h : sml co (fo i)
    · rw [g1 h, bs, gI_s (by omega) (by omega), bs, if_pos rfl]
      refine Or.inr ⟨_, rfl, ⟨i + 1, by omega, by omega, fun j hj => ?_⟩, by omega⟩
      rcases Nat.lt_or_ge j i with z | z
      · exact hi2 j z
      · rw [show j = i by omega]; exact h
    · rw [g2 h, bs, gI_s (by omega) (by omega), bs, if_neg (by omega)]
      exact Or.inl ⟨_, rfl, Or.inr ⟨rfl, fun z => h (z i (by omega))⟩⟩
theorem s_runK {S : Type} [Lean.Grind.CommRing S] {co : S → Nat → Int} (P : isPol co) {M : MI} (hM : ok M) {k g : Nat} (hk : k ≤ 10) (hg : M.2 36 2 = g) (hgk : g + k ≤ 80) (h4 : M.2 36 4 = (k : Nat)) {fo : Nat → S} {es : Nat → Nat} (hFR : FR co M k fo) (hsm : ∀ i, i < k → sml co (fo i)) (hes : ∀ i, i < k → M.2 43 i = (es i : Nat)) {n : Nat} (hn : 18446744073709551616 ≤ n) : ∃ M', lpF (l_X8_run_148 n) n (M, 0) = some M' ∧ ok M' ∧ ko M M' ∧ kept co M M' g k fo es ∧ M'.2 36 3 = M.2 36 3 ∧ M'.2 36 11 = (k : Nat) := by
  obtain ⟨M', hL, h1, h2, h3, h5, h6, h7, h8, h9⟩ := lp_do (step := l_X8_run_148 n) (fun st => ok st.1 ∧ st.1.1 = M.1 ∧ ∃ i : Nat, st.2 = i ∧ i ≤ k ∧ st.1.2 36 2 = ((g + i : Nat) : Int) ∧ (∀ x, x ≠ 2 → st.1.2 36 x = M.2 36 x) ∧ (∀ a x, a ≠ 36 → a ≠ 38 → a ≠ 39 → a ≠ 40 → st.1.2 a x = M.2 a x) ∧ (∀ q j, j < 11 → st.1.2 38 (11 * q + j) = if g ≤ q ∧ q < g + i then co (fo (q - g)) j else M.2 38 (11 * q + j)) ∧ (∀ x, st.1.2 39 x = if x < i then ((g + x : Nat) : Int) else M.2 39 x) ∧ (∀ x, st.1.2 40 x = if x < i then ((es x : Nat) : Int) else M.2 40 x)) (fun st => (20 - st.2).toNat) (fun M' => ok M' ∧ M'.1 = M.1 ∧ M'.2 36 2 = ((g + k : Nat) : Int) ∧ (∀ x, x ≠ 2 → M'.2 36 x = M.2 36 x) ∧ (∀ a x, a ≠ 36 → a ≠ 38 → a ≠ 39 → a ≠ 40 → M'.2 a x = M.2 a x) ∧ (∀ q j, j < 11 → M'.2 38 (11 * q + j) = if g ≤ q ∧ q < g + k then co (fo (q - g)) j else M.2 38 (11 * q + j)) ∧ (∀ x, M'.2 39 x = if x < k then ((g + x : Nat) : Int) else M.2 39 x) ∧ (∀ x, M'.2 40 x = if x < k then ((es x : Nat) : Int) else M.2 40 x)) (fun st hst => by
    obtain ⟨M1, y⟩ := st
    obtain ⟨k1, k2, i, hy, hik, a1, a2, a3, a4, a5, a6⟩ := hst
    dsimp only at k1 k2 hy a1 a2 a3 a4 a5 a6
    subst hy
    have h11 : M1.2 36 11 = k := by rw [a2 11 (by omega)]; exact hFR.1
    unfold l_X8_run_148
    dsimp only
    rw [h11, gI_s (by omega) (by omega), bs]
    by_cases hle : (k : Int) ≤ i
    · rw [if_pos hle]
      have e : i = k := by omega
      subst e
      exact Or.inl ⟨_, rfl, k1, k2, a1, a2, a3, a4, a5, a6⟩
    · rw [if_neg hle]
      obtain ⟨ri, ni⟩ := hFR.2 i (by omega)
      obtain ⟨sm1, sm2⟩ := hsm i (by omega)
      have e40 : (40 : Int) + i = ((40 + i : Nat) : Int) := by omega
      have hdg : dg M1 (40 + i) = (nu co (fo i) : Int) - 1 := by show M1.2 42 (40 + i) = _; rw [a3 42 _ (by omega) (by omega) (by omega) (by omega)]; exact ri.1
      have hwv : ∀ j, j < nu co (fo i) → wv M1 (40 + i) j = co (fo i) j := fun j hj => by show M1.1 41 _ = _; rw [k2]; exact ri.2 j hj
      have hst := s_store k1 (s := 40 + i) (g := g + i) (by omega) a1 (by omega) (v := co (fo i)) (fun j hj => by
        rw [hdg]
        by_cases z : j < nu co (fo i)
        · rw [if_pos (by omega), hwv j z]
        · rw [if_neg (by omega), nu_hi P _ (by omega)]) (fun j _ => by have := nz_le.mp (sm2 j); omega) hn
      rw [e40, hst, bs]
      dsimp only
      rw [osI_n i rfl rfl (by rw [k39.2]; omega), bs]
      obtain ⟨N, hN⟩ : ∃ N, N = oI (wiM M1 38 (11 * (g + i)) 11 (co (fo i))) 36 2 (((g + i : Nat) : Int) + 1) := ⟨_, rfl⟩
      have N1 : N.1 = M1.1 := by rw [hN]; rfl
      have N2 : ∀ a x, N.2 a x = if a = 36 ∧ x = 2 then ((g + i : Nat) : Int) + 1 else if a = 38 ∧ 11 * (g + i) ≤ x ∧ x < 11 * (g + i) + 11 then co (fo i) (x - 11 * (g + i)) else M1.2 a x := fun a x => by rw [hN, oI_2, wiM_2]
      have hokN : ok N := by rw [hN]; exact ok_oI (ok_wiM k1 (fun j _ => by have := nz_le.mp (sm2 j); omega)) (by omega)
      rw [← hN]
      have h43 : (oI N 39 i ((g + i : Nat) : Int)).2 43 i = (es i : Nat) := by
        rw [oI_2, if_neg (by omega), N2, if_neg (by omega), if_neg (by omega), a3 43 i (by omega) (by omega) (by omega) (by omega)]
        exact hes i (by omega)
      have hei := hM.2 43 i
      rw [hes i (by omega)] at hei
      rw [odI_n i rfl rfl (by rw [k43.2]; omega), bs, h43, osI_n i rfl rfl (by rw [k40.2]; omega), bs]
      refine Or.inr ⟨_, rfl, ⟨ok_oI (ok_oI hokN (by omega)) (by omega), by dsimp only; rw [oI_1, oI_1, N1, k2], i + 1, by dsimp only; omega, by omega, ?_, fun x hx => ?_, fun a x x1 x2 x3 x4 => ?_, fun q j hj => ?_, fun x => ?_, fun x => ?_⟩, by dsimp only; omega⟩
      · dsimp only
        rw [oI_2, if_neg (by omega), oI_2, if_neg (by omega), N2, if_pos ⟨rfl, rfl⟩]; omega
      · dsimp only
        rw [oI_2, if_neg (by omega), oI_2, if_neg (by omega), N2, if_neg (by omega), if_neg (by omega)]; exact a2 x hx
      · dsimp only
        rw [oI_2, if_neg (by omega), oI_2, if_neg (by omega), N2, if_neg (by omega), if_neg (by omega)]; exact a3 a x x1 x2 x3 x4
      · dsimp only
        rw [oI_2, if_neg (by omega), oI_2, if_neg (by omega), N2, if_neg (by omega)]
        by_cases z : q = g + i
        · rw [if_pos (by omega), if_pos (by omega), z, show 11 * (g + i) + j - 11 * (g + i) = j by omega, show g + i - g = i by omega]
        · rw [if_neg (by omega), a4 q j hj]
          by_cases y : g ≤ q ∧ q < g + i
          · rw [if_pos y, if_pos (by omega)]
          · rw [if_neg y, if_neg (by omega)]
      · dsimp only
        rw [oI_2, if_neg (by omega), oI_2]
        by_cases z : x = i
        · rw [if_pos ⟨rfl, z⟩, if_pos (by omega), z]
        · rw [if_neg (by omega), N2, if_neg (by omega), if_neg (by omega), a5 x]
          by_cases y : x < i
          · rw [if_pos y, if_pos (by omega)]
          · rw [if_neg y, if_neg (by omega)]
      · dsimp only
        rw [oI_2]
        by_cases z : x = i
        · rw [if_pos ⟨rfl, z⟩, if_pos (by omega), z]
        · rw [if_neg (by omega), oI_2, if_neg (by omega), N2, if_neg (by omega), if_neg (by omega), a6 x]
          by_cases y : x < i
          · rw [if_pos y, if_pos (by omega)]
          · rw [if_neg y, if_neg (by omega)]) n (M, 0) ⟨hM, rfl, 0, rfl, by omega, by rw [hg]; rfl, fun x _ => rfl, fun a x _ _ _ _ => rfl, fun q j hj => by rw [if_neg (by omega)], fun x => by rw [if_neg (by omega)], fun x => by rw [if_neg (by omega)]⟩ (by dsimp only; omega)
  exact ⟨M', hL, h1, ⟨fun a i _ _ => by rw [h2], fun a i ha => h6 a i (by omega) (by omega) (by omega) (by omega)⟩, ⟨h3, by rw [h5 4 (by omega)]; exact h4, h7, h8, h9⟩, h5 3 (by omega), by rw [h5 11 (by omega)]; exact hFR.1⟩
theorem no_irz1 {S : Type} [Lean.Grind.CommRing S] {co : S → Nat → Int} (P : isPol co) {F : S} (h1 : nu co F = 1) {π : S} (hπ : irz co π) : ¬ dv π F := fun hd => by
  have := z_le P hd (fun z => by rw [(nu_zero P).mpr z] at h1; omega)
  have := hπ.2.1
  omega
theorem s_run {S : Type} [Lean.Grind.CommRing S] {co : S → Nat → Int} (P : isPol co) {M : MI} (hM : ok M) (hpb : ∀ k, k < 20 → M.2 37 k = PB k) {p g : Nat} (hp : p < 80) (hg : M.2 36 2 = g) (hg80 : g ≤ 80) {F0 : S} (hF : ∀ j, j < 11 → co F0 j = M.2 38 (11 * p + j)) (hF2 : ∀ j, 11 ≤ j → co F0 j = 0) (hXF : ∀ i, nz (co F0 i) ≤ 9999) {n : Nat} (hn : 18446744073709551616 ≤ n) :
    ∃ r M', f_X8_run n p M = some (r, M') ∧ ok M' ∧ ko M M' ∧ ((nu co F0 = 0 ∧ r = -1 ∧ M'.2 36 3 = 0 ∧ sm8 M M') ∨ (2 ≤ nu co F0 ∧ 80 - (g : Int) < (nu co F0 : Int) - 1 ∧ r = 0 ∧ M'.2 36 3 = 2 ∧ sm8 M M') ∨ (nu co F0 ≠ 0 ∧ (nu co F0 = 1 ∨ (nu co F0 : Int) - 1 ≤ 80 - g) ∧ M'.2 36 3 = 0 ∧ ∃ (F : S) (k : Nat) (fo : Nat → S) (es : Nat → Nat), F0 = mo P (sc co F0) 0 * F ∧ FSet P F k fo es ∧ k ≤ 10 ∧ g + k ≤ 80 ∧ ((r = -2 ∧ (¬ ∀ i, i < k → sml co (fo i)) ∧ sm8 M M') ∨ (r = k ∧ (∀ i, i < k → sml co (fo i)) ∧ kept co M M' g k fo es)))) := by
  have hNF : nu co F0 ≤ 11 := nu_le P hF2
  have e1 : f_X8_isPoly (p : Int) = some 1 := by rw [s_isPoly _ (by omega), if_pos (by omega)]
  have hok1 : ok (oI M 36 3 0) := ok_oI hM (by omega)
  have hc1 := chm_fl (F := [3]) M (i := 3) (by simp) 0
  have h31 : (oI M 36 3 0).2 36 3 = 0 := by rw [oI_2, if_pos ⟨rfl, rfl⟩]
  obtain ⟨M2, e2, hok2, hc2, r2⟩ := s_load P hok1 (p := p) (s := 0) hp (by omega) (f := F0) (fun k hk => by rw [oI_2, if_neg (by omega)]; exact hF k hk) hF2 hn
  have e2' : f_X8_load n p 0 (oI M 36 3 0) = some M2 := e2
  have d5 : odI M2 42 0 = some ((nu co F0 : Int) - 1) := by rw [odI_n (i := 0) 0 rfl rfl (by rw [k42.2]; omega)]; exact congrArg some r2.1
  have hko2 : ko M M2 := ko_trans (ko_oI M (a := 36) (by omega) 3 0) ⟨fun k i a _ => hc2.1 k i a, fun k i a => hc2.2.1 k i (by omega)⟩
  have hsm2 : sm8 M M2 := sm8_trans (sm8_fl M (i := 3) (by omega) (by omega) 0) ⟨fun i => hc2.2.1 38 i (by omega), fun i => hc2.2.1 39 i (by omega), fun i => hc2.2.1 40 i (by omega), hc2.2.1 36 2 (by omega), hc2.2.1 36 4 (by omega)⟩
  have h32 : M2.2 36 3 = 0 := by rw [hc2.2.1 36 3 (by omega)]; exact h31
  have hg2 : M2.2 36 2 = g := by rw [hsm2.2.2.2.1]; exact hg
  have head : ∀ X, (f_X8_run n p M = some X) = ((if 0 ≤ (nu co F0 : Int) - 1 then
      Option.bind (
        Option.bind (gI ((nu co F0 : Int) - 1) 0) fun _ =>
        if (nu co F0 : Int) - 1 ≤ 0 then
          some (0)
        else
          Option.bind (gI ((80) - (M2.2 36 2)) ((nu co F0 : Int) - 1)) fun _ =>
          if (nu co F0 : Int) - 1 ≤ ((80) - (M2.2 36 2)) then
            some (0)
          else
            some (2)) fun v6 =>
      Option.bind (opI M2 36 3 v6) fun v7 =>
      Option.bind (gI (v7.2 36 3) 0) fun _ =>
      if (v7.2 36 3) = 0 then
        Option.bind (opI v7 36 11 (0)) fun v8 =>
        Option.bind (
          Option.bind (gI ((nu co F0 : Int) - 1) 0) fun _ =>
          if (nu co F0 : Int) - 1 ≤ 0 then
            some v8
          else
            Option.bind (f_X8_primitive n (0) v8) fun (v9, M10) =>
            Option.bind (f_X8_squareFreePart n M10) fun v11 =>
            Option.bind (f_X8_factorWhole n v11) fun v12 =>
            Option.bind (f_X8_sort n v12) fun v13 =>
            Option.bind (f_X8_countOften n v13) fun v14 =>
            some v14) fun M15 =>
        Option.bind (lpF (l_X8_run_110 n M15) n (0)) fun r => match r with
        | .inl o => some o
        | .inr () =>
          Option.bind (opI M15 36 4 (M15.2 36 11)) fun v19 =>
          Option.bind (lpF (l_X8_run_148 n) n (v19, (0))) fun M28 =>
          some (M28.2 36 11, M28)
      else
        some ((0), v7)
    else
      some ((-1), M2)) = some X) := fun X => by
    unfold f_X8_run
    rw [e1, bs, gI_s (by omega) (by omega), bs, if_neg (by omega), bs]
    unfold opI
    rw [bs, h31, gI_s (by omega) (by omega), bs, if_pos rfl, e2', bs, d5, bs, gI_s (by omega) (by omega), bs]
    rfl
  by_cases h0 : nu co F0 = 0
  · exact ⟨-1, M2, by rw [head, if_neg (by omega)], hok2, hko2, Or.inl ⟨h0, rfl, h32, hsm2⟩⟩
  · by_cases hroom : 2 ≤ nu co F0 ∧ 80 - (g : Int) < (nu co F0 : Int) - 1
    · refine ⟨0, oI M2 36 3 2, ?_, ok_oI hok2 (by omega), ko_trans hko2 (ko_oI M2 (a := 36) (by omega) 3 2), Or.inr (Or.inl ⟨hroom.1, hroom.2, rfl, by rw [oI_2, if_pos ⟨rfl, rfl⟩], sm8_trans hsm2 (sm8_fl M2 (i := 3) (by omega) (by omega) 2)⟩)⟩
      rw [head, if_pos (by omega), gI_s (by omega) (by omega), bs, if_neg (by omega), hg2, gI_s (by omega) (by omega), bs, if_neg (by omega), bs]
      unfold opI
      rw [bs, oI_2, if_pos ⟨rfl, rfl⟩, gI_s (by omega) (by omega), bs, if_neg (by omega)]
    · obtain ⟨M3, hM3⟩ : ∃ M3, M3 = oI (oI M2 36 3 0) 36 11 0 := ⟨_, rfl⟩
      have hok3 : ok M3 := by rw [hM3]; exact ok_oI (ok_oI hok2 (by omega)) (by omega)
      have r3 : RZ co M3 0 F0 := by rw [hM3]; exact RZ_fl (RZ_fl r2 3 0) 11 0
      have hko3 : ko M M3 := by rw [hM3]; exact ko_trans hko2 (ko_trans (ko_oI M2 (a := 36) (by omega) 3 0) (ko_oI _ (a := 36) (by omega) 11 0))
      have hsm3 : sm8 M M3 := by rw [hM3]; exact sm8_trans hsm2 (sm8_trans (sm8_fl M2 (i := 3) (by omega) (by omega) 0) (sm8_fl _ (i := 11) (by omega) (by omega) 0))
      have h33 : M3.2 36 3 = 0 := by rw [hM3, oI_2, if_neg (by omega), oI_2, if_pos ⟨rfl, rfl⟩]
      have h311 : M3.2 36 11 = 0 := by rw [hM3, oI_2, if_pos ⟨rfl, rfl⟩]
      have head2 : ∀ X, (f_X8_run n p M = some X) = ((Option.bind (
          Option.bind (gI ((nu co F0 : Int) - 1) 0) fun _ =>
          if (nu co F0 : Int) - 1 ≤ 0 then
            some M3
          else
            Option.bind (f_X8_primitive n (0) M3) fun (v9, M10) =>
            Option.bind (f_X8_squareFreePart n M10) fun v11 =>
            Option.bind (f_X8_factorWhole n v11) fun v12 =>
            Option.bind (f_X8_sort n v12) fun v13 =>
            Option.bind (f_X8_countOften n v13) fun v14 =>
            some v14) fun M15 =>
        Option.bind (lpF (l_X8_run_110 n M15) n (0)) fun r => match r with
        | .inl o => some o
        | .inr () =>
          Option.bind (opI M15 36 4 (M15.2 36 11)) fun v19 =>
          Option.bind (lpF (l_X8_run_148 n) n (v19, (0))) fun M28 =>
          some (M28.2 36 11, M28)) = some X) := fun X => by
        rw [head, if_pos (by omega), gI_s (by omega) (by omega), bs]
        have e6 : (if (nu co F0 : Int) - 1 ≤ 0 then some (0 : Int) else Option.bind (gI ((80) - (M2.2 36 2)) ((nu co F0 : Int) - 1)) fun _ => if (nu co F0 : Int) - 1 ≤ ((80) - (M2.2 36 2)) then some (0) else some (2)) = some 0 := by
          by_cases z : (nu co F0 : Int) - 1 ≤ 0
          · rw [if_pos z]
          · rw [if_neg z, hg2, gI_s (by omega) (by omega), bs, if_pos (by omega)]
        rw [e6, bs]
        unfold opI
        rw [bs, oI_2, if_pos ⟨rfl, rfl⟩, gI_s (by omega) (by omega), bs, if_pos rfl, bs, ← hM3]
      -- the factors, and the memory where they lie
      have hfac : ∃ (M15 : MI) (F : S) (k : Nat) (fo : Nat → S) (es : Nat → Nat), (Option.bind (gI ((nu co F0 : Int) - 1) 0) fun _ =>
          if (nu co F0 : Int) - 1 ≤ 0 then
            some M3
          else
            Option.bind (f_X8_primitive n (0) M3) fun (v9, M10) =>
            Option.bind (f_X8_squareFreePart n M10) fun v11 =>
            Option.bind (f_X8_factorWhole n v11) fun v12 =>
            Option.bind (f_X8_sort n v12) fun v13 =>
            Option.bind (f_X8_countOften n v13) fun v14 =>
            some v14) = some M15 ∧ ok M15 ∧ kp M3 M15 ∧ F0 = mo P (sc co F0) 0 * F ∧ FSet P F k fo es ∧ FR co M15 k fo ∧ (∀ i, i < k → M15.2 43 i = (es i : Nat)) ∧ (∀ i, i < k → ∀ j, nz (co (fo i) j) ≤ 979902) ∧ k + 1 ≤ nu co F0 := by
        by_cases z : (nu co F0 : Int) - 1 ≤ 0
        · obtain ⟨hs0, ⟨F, hFe⟩, hall⟩ := sc_spec P h0
          obtain ⟨-, -, hN1, -⟩ := hall F hFe
          refine ⟨M3, F, 0, fun _ => 0, fun _ => 0, by rw [gI_s (by omega) (by omega), bs, if_pos z], hok3, kp_refl _, hFe, ⟨fun i hi => absurd hi (by omega), fun π hπ hd => absurd hd (no_irz1 P (by omega) hπ), fun a b _ hb => absurd hb (by omega)⟩, ⟨h311, fun i hi => absurd hi (by omega)⟩, fun i hi => absurd hi (by omega), fun i hi => absurd hi (by omega), by omega⟩
        · obtain ⟨M9, Ma, Mb, Mc, Md, F, k, fo, es, e9, ea, eb, ec, ed, hokd, hkpd, hF0, hFS, hFRd, hes, hXf, hkN, -⟩ := s_facs P hok3 (fun k hk => by rw [hko3.2 37 k (by omega)]; exact hpb k hk) r3 hNF (by omega) hXF hn
          refine ⟨Md, F, k, fo, es, ?_, hokd, hkpd, hF0, hFS, hFRd, hes, hXf, hkN⟩
          rw [gI_s (by omega) (by omega), bs, if_neg z, e9, bs]
          dsimp only
          rw [ea, bs, eb, bs, ec, bs, ed, bs]
      obtain ⟨M15, F, k, fo, es, ef, hok15, hkp15, hF0, hFS, hFR15, hes, hXf, hkN⟩ := hfac
      have hgk : g + k ≤ 80 := by omega
      have hsm15 : sm8 M M15 := sm8_trans hsm3 (sm8_kp hkp15)
      have hko15 : ko M M15 := ko_trans hko3 (ko_kp hkp15)
      have h315 : M15.2 36 3 = 0 := by rw [hkp15.2.2.2.2]; exact h33
      obtain ⟨rr, hr, hr2⟩ := s_runG P hok15 (by omega) hFR15 hXf hn
      rcases hr2 with ⟨er, hall⟩ | ⟨er, hnall⟩
      · have hok19 : ok (oI M15 36 4 (k : Nat)) := ok_oI hok15 (by omega)
        have hFR19 : FR co (oI M15 36 4 (k : Nat)) k fo := ⟨by rw [oI_2, if_neg (by omega)]; exact hFR15.1, fun i hi => ⟨RZ_fl (hFR15.2 i hi).1 4 _, (hFR15.2 i hi).2⟩⟩
        obtain ⟨M28, e28, hok28, hko28, hkept, h328, h1128⟩ := s_runK P hok19 (k := k) (g := g) (by omega) (by rw [oI_2, if_neg (by omega), hsm15.2.2.2.1]; exact hg) hgk (by rw [oI_2, if_pos ⟨rfl, rfl⟩]) hFR19 hall (fun i hi => by rw [oI_2, if_neg (by omega)]; exact hes i hi) hn
        refine ⟨k, M28, ?_, hok28, ko_trans hko15 (ko_trans (ko_oI M15 (a := 36) (by omega) 4 _) hko28), Or.inr (Or.inr ⟨h0, by omega, by rw [h328, oI_2, if_neg (by omega)]; exact h315, F, k, fo, es, hF0, hFS, by omega, hgk, Or.inr ⟨rfl, hall, ?_⟩⟩)⟩
        · rw [head2, ef, bs, hr, bs, er]
          dsimp only
          unfold opI
          rw [bs, hFR15.1, e28, bs, h1128]
        · obtain ⟨c1, c2, c3, c4, c5⟩ := hkept
          refine ⟨c1, c2, fun q j hj => ?_, fun i => ?_, fun i => ?_⟩
          · rw [c3 q j hj, show (oI M15 36 4 (k : Nat)).2 38 (11 * q + j) = M.2 38 (11 * q + j) by rw [oI_2, if_neg (by omega), hsm15.1]]
          · rw [c4 i, show (oI M15 36 4 (k : Nat)).2 39 i = M.2 39 i by rw [oI_2, if_neg (by omega), hsm15.2.1]]
          · rw [c5 i, show (oI M15 36 4 (k : Nat)).2 40 i = M.2 40 i by rw [oI_2, if_neg (by omega), hsm15.2.2.1]]
      · refine ⟨-2, M15, ?_, hok15, hko15, Or.inr (Or.inr ⟨h0, by omega, h315, F, k, fo, es, hF0, hFS, by omega, hgk, Or.inl ⟨rfl, hnall, hsm15⟩⟩)⟩
        rw [head2, ef, bs, hr, bs, er]
end MRefZ
