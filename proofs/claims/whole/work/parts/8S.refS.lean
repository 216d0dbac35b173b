/-! candidate: a product of pieces, brought to whole numbers -/
section MRefS
theorem s_canI {R T : Type} [Lean.Grind.CommRing T] [Lean.Grind.CommRing R] {ct : T → Nat → R} (K : isPol ct) {p : Nat} (hp : isZp R p) {φ : Int → R} (hφ : isRed φ p) {M : MI} (hM : ok M) {k i : Nat} (hk : k < 16) (hm : M.1 36 9 = p) (hm2 : p ≤ 1000000000000) {f g Q : T} (hf : RP ct φ p M 7 f) (hg : RP ct φ p M (24 + k) g) (hi : i < nu ct f) (hN : nu ct f + nu ct g ≤ 25) (hQ : ∀ t : Nat, t + 1 < nu ct f + nu ct g → 0 ≤ wv M 11 t ∧ wv M 11 t < p ∧ φ (wv M 11 t) = ct Q t) {n : Nat} (hn : 18446744073709551616 ≤ n) : ∃ M', lpF (l_X8_candidate_112 k i) n (M, 0) = some M' ∧ ok M' ∧ chg [11] M M' ∧ M'.2 = M.2 ∧ ∀ t : Nat, t + 1 < nu ct f + nu ct g → 0 ≤ wv M' 11 t ∧ wv M' 11 t < p ∧ φ (wv M' 11 t) = ct (Q + mo K (ct f i) i * g) t := by
  have hp2 := hp.1.1
  have hd : M.2 42 (24 + k) = (nu ct g : Int) - 1 := hg.1
  obtain ⟨V, hV⟩ : ∃ V : Nat → Int, V = fun t => (wv M 11 (i + t) + wv M 7 i * wv M (24 + k) t % p) % p := ⟨_, rfl⟩
  have hVb : ∀ t, 0 ≤ V t ∧ V t < p := fun t => by rw [hV]; exact ⟨Int.emod_nonneg _ (by omega), Int.emod_lt_of_pos _ (by omega)⟩
  obtain ⟨f1, f2, f3⟩ := hf.2 i hi
  have hL : lpF (l_X8_candidate_112 k i) n (M, 0) = some (wrM M 41 (264 + i) (nu ct g) V) := by
    have e := lp_for (step := l_X8_candidate_112 k i) (fun j => (wrM M 41 (264 + i) j V, (j : Int))) (wrM M 41 (264 + i) (nu ct g) V) (nu ct g) n (fun j hj => by
      obtain ⟨g1, g2, g3⟩ := hg.2 j hj
      obtain ⟨t1, t2, t3⟩ := hQ (i + j) (by omega)
      have w1 : (wrM M 41 (264 + i) j V).1 41 (264 + i + j) = wv M 11 (i + j) := by rw [wrM_1, if_neg (by omega)]; show _ = M.1 41 (24 * 11 + (i + j)); rw [show 24 * 11 + (i + j) = 264 + i + j by omega]
      have w2 : (wrM M 41 (264 + i) j V).1 41 (168 + i) = wv M 7 i := by rw [wrM_1, if_neg (by omega)]
      have w3 : (wrM M 41 (264 + i) j V).1 41 (24 * (24 + k) + j) = wv M (24 + k) j := by rw [wrM_1, if_neg (by omega)]
      have w4 : (wrM M 41 (264 + i) j V).1 36 9 = p := by rw [wrM_1, if_neg (by omega), hm]
      have hb0 : 0 ≤ wv M 7 i * wv M (24 + k) j % p := Int.emod_nonneg _ (by omega)
      have hb1 : wv M 7 i * wv M (24 + k) j % p < p := Int.emod_lt_of_pos _ (by omega)
      have er : orJ (wv M 11 (i + j) + wv M 7 i * wv M (24 + k) j % p) p = some (V j) := by
        unfold orJ
        rw [if_pos ⟨by omega, by omega, by omega, by omega⟩, tmod_nn (by omega), hV]
      unfold l_X8_candidate_112
      dsimp only
      rw [odI_n (24 + k) rfl (by omega) (by rw [k42.2]; omega), bs, show (wrM M 41 (264 + i) j V).2 = M.2 from rfl, hd, gI_s (by omega) (by omega), bs, if_neg (by omega), odJ_n (264 + i + j) rfl (by omega) (by rw [k41.2]; omega), bs, w1, odJ_n (168 + i) rfl (by omega) (by rw [k41.2]; omega), bs, w2, odJ_n (24 * (24 + k) + j) rfl (by omega) (by rw [k41.2]; omega), bs, w3, s_product w4 (by omega) (by omega) f1 f2 g1 g2, bs, w4, er, bs, osJ_n (264 + i + j) rfl (by omega) (by rw [k41.2]; omega), bs, wrM_s]
      rfl) (by
      unfold l_X8_candidate_112
      dsimp only
      rw [odI_n (24 + k) rfl (by omega) (by rw [k42.2]; omega), bs, show (wrM M 41 (264 + i) (nu ct g) V).2 = M.2 from rfl, hd, gI_s (by omega) (by omega), bs, if_pos (by omega)]) (by omega)
    rw [wrM_0] at e
    exact e
  refine ⟨_, hL, ok_wrM hM (fun j _ => by have := hVb j; omega), chg_win (s := 11) rfl (fun k i h => by rw [wrM_1, if_neg (by omega)]), rfl, fun t ht => ?_⟩
  have e : wv (wrM M 41 (264 + i) (nu ct g) V) 11 t = if i ≤ t ∧ t < i + nu ct g then V (t - i) else wv M 11 t := by
    show (wrM M 41 (264 + i) (nu ct g) V).1 41 (24 * 11 + t) = _
    rw [wrM_1]
    by_cases z : i ≤ t ∧ t < i + nu ct g
    · rw [if_pos z, if_pos (by omega), show 24 * 11 + t - (264 + i) = t - i by omega]
    · rw [if_neg z, if_neg (by omega)]
  rw [e, p_add K, mo_mul K]
  obtain ⟨t1, t2, t3⟩ := hQ t ht
  by_cases z : i ≤ t ∧ t < i + nu ct g
  · rw [if_pos z, if_pos z.1]
    refine ⟨(hVb _).1, (hVb _).2, ?_⟩
    obtain ⟨g1, g2, g3⟩ := hg.2 (t - i) (by omega)
    rw [hV]
    dsimp only
    rw [show i + (t - i) = t by omega, red_md hφ, hφ.1, red_md hφ, hφ.2.1, t3, f3, g3]
  · rw [if_neg z]
    refine ⟨t1, t2, ?_⟩
    by_cases z2 : i ≤ t
    · rw [if_pos z2, nu_hi K g (by omega), t3]; grind
    · rw [if_neg z2, t3]; grind
theorem s_canO {R T : Type} [Lean.Grind.CommRing T] [Lean.Grind.CommRing R] {ct : T → Nat → R} (K : isPol ct) {p : Nat} (hp : isZp R p) {φ : Int → R} (hφ : isRed φ p) {M : MI} (hM : ok M) {k : Nat} (hk : k < 16) (hm : M.1 36 9 = p) (hm2 : p ≤ 1000000000000) {f g : T} (hf : RP ct φ p M 7 f) (hg : RP ct φ p M (24 + k) g) (hN : nu ct f + nu ct g ≤ 25) (hf0 : nu ct f ≠ 0) (hg0 : nu ct g ≠ 0) (hQ : ∀ t : Nat, t + 1 < nu ct f + nu ct g → wv M 11 t = 0) {n : Nat} (hn : 18446744073709551616 ≤ n) : ∃ M', lpF (l_X8_candidate_97 n k) n (M, 0) = some M' ∧ ok M' ∧ chg [11] M M' ∧ M'.2 = M.2 ∧ ∀ t : Nat, t + 1 < nu ct f + nu ct g → 0 ≤ wv M' 11 t ∧ wv M' 11 t < p ∧ φ (wv M' 11 t) = ct (f * g) t := by
  have hp2 := hp.1.1
  have hda : M.2 42 7 = (nu ct f : Int) - 1 := hf.1
  refine lp_do (step := l_X8_candidate_97 n k) (fun st => ok st.1 ∧ chg [11] M st.1 ∧ st.1.2 = M.2 ∧ ∃ i : Nat, st.2 = i ∧ i ≤ nu ct f ∧ ∀ t : Nat, t + 1 < nu ct f + nu ct g → 0 ≤ wv st.1 11 t ∧ wv st.1 11 t < p ∧ φ (wv st.1 11 t) = ct (pt K f i * g) t) (fun st => ((nu ct f : Int) - st.2).toNat) _ (fun st hst => ?_) n (M, 0) ⟨hM, chg_refl _ _, rfl, 0, rfl, by omega, fun t ht => by
      have : pt K f 0 = 0 := rfl
      dsimp only
      rw [hQ t ht, this, show (0 : T) * g = 0 by grind, p_zero K]
      exact ⟨by omega, by omega, red_zero hφ⟩⟩ (by dsimp only; omega)
  obtain ⟨M1, y⟩ := st
  obtain ⟨h1, h2, h3, i, hy, hi, h4⟩ := hst
  dsimp only at h1 h2 h3 hy h4
  subst hy
  have hd1 : M1.2 42 7 = (nu ct f : Int) - 1 := by rw [h3]; exact hda
  unfold l_X8_candidate_97
  dsimp only
  rw [odI_n (i := 7) 7 rfl rfl (by rw [k42.2]; omega), bs, hd1, gI_s (by omega) (by omega), bs]
  by_cases hlt : (nu ct f : Int) - 1 < i
  · rw [if_pos hlt]
    have hie : i = nu ct f := by omega
    rw [hie, pt_all] at h4
    exact Or.inl ⟨_, rfl, h1, h2, h3, h4⟩
  · have hm1 : M1.1 36 9 = p := (h2.1 36 9 (by omega)).trans hm
    obtain ⟨M2, k1, k2, k3, k4, k5⟩ := s_canI K hp hφ h1 hk hm1 hm2 (RP_chg hf h2 (by simp) (by omega)) (RP_chg hg h2 (by simp; omega) (by omega)) (i := i) (by omega) hN h4 hn
    rw [if_neg hlt, k1, bs]
    have hpt : pt K f (i + 1) = pt K f i + mo K (ct f i) i := rfl
    refine Or.inr ⟨_, rfl, ⟨k2, chg_mono (chg_trans h2 k3) (fun z hz => by simpa using hz), k4.trans h3, i + 1, by dsimp only; omega, by omega, fun t ht => ?_⟩, by dsimp only; omega⟩
    dsimp only
    obtain ⟨w1, w2, w3⟩ := k5 t ht
    exact ⟨w1, w2, by rw [w3, hpt, show (pt K f i + mo K (ct f i) i) * g = pt K f i * g + mo K (ct f i) i * g by grind]⟩
theorem s_canL {R T : Type} [Lean.Grind.CommRing T] [Lean.Grind.CommRing R] {ct : T → Nat → R} (K : isPol ct) {p : Nat} (hp : isZp R p) {φ : Int → R} (hφ : isRed φ p) {M : MI} (hM : ok M) (hm : M.1 36 9 = p) (hm2 : p ≤ 1000000000000) {m : Nat} (hm10 : m ≤ 10) {q : Nat → T} (hPC : PC ct φ p M m q) (hG : nu ct (pdn q m) ≤ 11) {set : Nat} (hset : set < 1024) {c : R} (hc : c ≠ 0) (h7 : RP ct φ p M 7 (mo K c 0)) {n : Nat} (hn : 18446744073709551616 ≤ n) : ∃ M', lpF (l_X8_candidate_27 n set) n (M, 0) = some M' ∧ ok M' ∧ chg [7, 11] M M' ∧ RP ct φ p M' 7 (mo K c 0 * pm q (tb set) m) ∧ nu ct (mo K c 0 * pm q (tb set) m) ≤ 11 ∧ nu ct (mo K c 0 * pm q (tb set) m) = nu ct (pm q (tb set) m) := by
  have hp2 := hp.1.1
  have hF := hp.2.2.1
  have hE := pol_EU K hF
  have hone : (1 : T) ≠ 0 := fun z => by
    have := p_one K (S := T) 0
    rw [z, p_zero K, if_pos rfl] at this
    exact hF.1 this.symm
  have hq0 : ∀ j, j < m → q j ≠ 0 := fun j hj z => by have := (hPC.2 j hj).2.2.1; rw [(nu_zero K).mpr z] at this; omega
  have hpm0 : ∀ a k, k ≤ m → pm q a k ≠ 0 := fun a k hk => pdn_ne hE hone (fun i hh => by
    split
    · exact hq0 i (by omega)
    · exact hone)
  have hmo : nu ct (mo K c 0) = 1 := mo_N K 0 hc
  have hmo0 : mo K c 0 ≠ 0 := fun z => by rw [(nu_zero K).mpr z] at hmo; omega
  -- degrees of products of some pieces
  have hpmN : ∀ a k, k ≤ m → nu ct (pm q a k) ≤ nu ct (pdn q m) := fun a k hk => by
    have h1 : dv (pm q a k) (pdn q k) := ⟨_, (pm_not q a k).symm⟩
    have hpk : ∀ j, j ≤ m → pdn q j ≠ 0 := fun j hj => pdn_ne hE hone (fun i hh => hq0 i (by omega))
    have h2 : ∀ d, k + d ≤ m → dv (pdn q k) (pdn q (k + d)) := fun d => by
      induction d with
      | zero => exact fun _ => dv_refl _
      | succ d ih => exact fun hh => dv_trans (ih (by omega)) (dv_l _ _)
    have h3 := h2 (m - k) (by omega)
    rw [show k + (m - k) = m by omega] at h3
    exact eu_le hE (dv_trans h1 h3) (hpk m (Nat.le_refl _))
  have hcN : ∀ a k, k ≤ m → nu ct (mo K c 0 * pm q a k) = nu ct (pm q a k) := fun a k hk => by
    have := nu_mul K (isF_D hF) hmo0 (hpm0 a k hk)
    omega
  obtain ⟨M', hL, h1, h2, h3⟩ := lp_do (step := l_X8_candidate_27 n set) (fun st => ok st.1 ∧ chg [7, 11] M st.1 ∧ ∃ k : Nat, st.2 = k ∧ k ≤ m ∧ RP ct φ p st.1 7 (mo K c 0 * pm q (tb set) k)) (fun st => (20 - st.2).toNat) (fun M' => ok M' ∧ chg [7, 11] M M' ∧ RP ct φ p M' 7 (mo K c 0 * pm q (tb set) m)) (fun st hst => by
    obtain ⟨M1, y⟩ := st
    obtain ⟨k1, k2, k, hy, hk, r7⟩ := hst
    dsimp only at k1 k2 hy r7
    subst hy
    have hPC1 := PC_chm hPC (chm_of (F := []) k2) (fun s hs => by simp at hs; omega)
    have hm1 : M1.1 36 9 = p := by rw [k2.1 36 9 (by omega)]; exact hm
    unfold l_X8_candidate_27
    dsimp only
    rw [hPC1.1, gI_s (by omega) (by omega), bs]
    by_cases hle : (m : Int) ≤ k
    · rw [if_pos hle]
      have e : k = m := by omega
      subst e
      exact Or.inl ⟨_, rfl, k1, k2, r7⟩
    · rw [if_neg hle, obit hset (by omega)]
      have hpms : pm q (tb set) (k + 1) = pm q (tb set) k * (if tb set k then q k else 1) := rfl
      by_cases hb : set.testBit k = true
      · rw [if_pos hb, gI_s (by omega) (by omega), bs, if_pos rfl]
        have hb' : tb set k = true := hb
        rw [hb', if_pos rfl] at hpms
        obtain ⟨rk, mk, nk2, nk11⟩ := hPC1.2 k (by omega)
        have n1 := hcN (tb set) k hk
        have n2 := hpmN (tb set) k hk
        have n3 := hpmN (tb set) (k + 1) (by omega)
        have n0 : nu ct (pm q (tb set) k) ≠ 0 := fun z => hpm0 _ k hk ((nu_zero K).mp z)
        have n4 := nu_mul K (isF_D hF) (hpm0 (tb set) k hk) (hq0 k (by omega))
        rw [← hpms] at n4
        have d6 : odI M1 42 7 = some ((nu ct (mo K c 0 * pm q (tb set) k) : Int) - 1) := by rw [odI_n (i := 7) 7 rfl rfl (by rw [k42.2]; omega)]; exact congrArg some r7.1
        have d7 : odI M1 42 (24 + (k : Int)) = some ((nu ct (q k) : Int) - 1) := by rw [odI_n (24 + k) rfl (by omega) (by rw [k42.2]; omega)]; exact congrArg some rk.1
        obtain ⟨t, ht⟩ : ∃ t : Nat, t = nu ct (mo K c 0 * pm q (tb set) k) + nu ct (q k) - 2 := ⟨_, rfl⟩
        have et : ((nu ct (mo K c 0 * pm q (tb set) k) : Int) - 1) + ((nu ct (q k) : Int) - 1) = t := by omega
        have hZ : lpF (l_X8_candidate_69 t) n (M1, 0) = some (wrM M1 41 264 (t + 1) (fun _ => 0)) := by
          have e := lp_for (step := l_X8_candidate_69 t) (fun j => (wrM M1 41 264 j (fun _ => 0), (j : Int))) (wrM M1 41 264 (t + 1) (fun _ => 0)) (t + 1) n (fun j hj => by
            unfold l_X8_candidate_69
            dsimp only
            rw [gI_s (by omega) (by omega), bs, if_neg (by omega), osJ_n (264 + j) rfl (by omega) (by rw [k41.2]; omega), bs]
            have := wrM_s M1 41 264 j (fun _ => 0)
            rw [this]
            rfl) (by
            unfold l_X8_candidate_69
            dsimp only
            rw [gI_s (by omega) (by omega), bs, if_pos (by omega)]) (by omega)
          rw [wrM_0] at e
          exact e
        have hok2 : ok (wrM M1 41 264 (t + 1) (fun _ => 0)) := ok_wrM k1 (fun _ _ => by omega)
        have hc2 : chg [11] M1 (wrM M1 41 264 (t + 1) (fun _ => 0)) := chg_win (s := 11) rfl (fun k i h => by rw [wrM_1, if_neg (by omega)])
        obtain ⟨M3, e3, hok3, hc3, h32, hv3⟩ := s_canO K hp hφ hok2 (k := k) (by omega) (by rw [hc2.1 36 9 (by omega)]; exact hm1) hm2 (RP_chg r7 hc2 (by simp) (by omega)) (RP_chg rk hc2 (by simp; omega) (by omega)) (by omega) (by omega) (by omega) (fun j hj => by
          show (wrM M1 41 264 (t + 1) (fun _ => 0)).1 41 (24 * 11 + j) = 0
          rw [wrM_1, if_pos (by omega)]) hn
        have hpe : mo K c 0 * pm q (tb set) k * q k = mo K c 0 * pm q (tb set) (k + 1) := by rw [hpms]; grind
        rw [hpe] at hv3
        have n5 := hcN (tb set) (k + 1) (by omega)
        obtain ⟨t1, t2, t3⟩ := s_trimP K hφ hok3 (s := 11) (by omega) (t := t) (by omega) (by omega) (f := mo K c 0 * pm q (tb set) (k + 1)) (fun j hj => hv3 j (by omega)) (fun j hj => nu_hi K _ (by omega)) hn
        obtain ⟨M5, e5, hok5, hc5, r5⟩ := s_copyP t3 (a := 11) (b := 7) (by omega) (by omega) t2 (by omega) hn
        have e5' : f_X8_copy n 11 7 _ = some M5 := e5
        rw [d6, bs, d7, bs, et, hZ, bs, e3, bs, show ((11 : Int)) = ((11 : Nat) : Int) from rfl, t1, bs, show (((11 : Nat) : Int)) = (11 : Int) from rfl, e5', bs, bs]
        refine Or.inr ⟨_, rfl, ⟨hok5, chg_mono (chg_trans k2 (chg_trans hc2 (chg_trans hc3 (chg_trans (chg_oI (s := 11) _) hc5)))) (fun x hx => by simp at hx ⊢; omega), k + 1, by dsimp only; omega, by omega, r5⟩, by dsimp only; omega⟩
      · rw [if_neg hb, gI_s (by omega) (by omega), bs, if_neg (by omega), bs]
        have hb' : tb set k = false := by unfold tb; simpa using hb
        rw [hb', if_neg (by decide)] at hpms
        refine Or.inr ⟨_, rfl, ⟨k1, k2, k + 1, by dsimp only; omega, by omega, ?_⟩, by dsimp only; omega⟩
        dsimp only
        rw [hpms, show pm q (tb set) k * 1 = pm q (tb set) k by grind]
        exact r7) n (M, 0) ⟨hM, chg_refl _ _, 0, rfl, by omega, by
      have : pm q (tb set) 0 = 1 := rfl
      dsimp only
      rw [this, show mo K c 0 * 1 = mo K c 0 by grind]
      exact h7⟩ (by dsimp only; omega)
  exact ⟨M', hL, h1, h2, h3, by have := hcN (tb set) m (Nat.le_refl _); have := hpmN (tb set) m (Nat.le_refl _); omega, hcN _ _ (Nat.le_refl _)⟩
theorem s_constZ {R T : Type} [Lean.Grind.CommRing T] [Lean.Grind.CommRing R] {ct : T → Nat → R} (K : isPol ct) {p : Nat} {φ : Int → R} (hφ : isRed φ p) {M : MI} (hM : ok M) {s : Nat} (hs : s < 60) {x : Int} (hx : 0 < x) (hx2 : x < p) (hp : p ≤ 1000000000000) : ∃ M', f_X8_constant s x M = some M' ∧ ok M' ∧ chg [s] M M' ∧ RP ct φ p M' s (mo K (φ x) 0) ∧ φ x ≠ 0 := by
  have h0 : φ x ≠ 0 := fun h => by
    have h1 := Int.le_of_dvd hx ((hφ.2.2.1 x).mp h)
    omega
  have hN : nu ct (mo K (φ x) 0) = 1 := mo_N K 0 h0
  refine ⟨_, s_constant hs (by omega), ok_oI (ok_oJ hM (by omega)) (by split <;> omega), chg_mono (chg_trans (chg_win (s := s) (M' := oJ M 41 (24 * s) x) rfl (fun k i h => by rw [oJ_1, if_neg (by omega)])) (chg_oI _)) (fun x hx => by simpa using hx), ⟨?_, fun j hj => ?_⟩, h0⟩
  · show (oI _ 42 s _).2 42 s = _
    rw [oI_2, if_pos ⟨rfl, rfl⟩, hN, if_neg (by omega)]; rfl
  · rw [hN] at hj
    have e : wv (oI (oJ M 41 (24 * s) x) 42 s (if x = 0 then -1 else 0)) s j = x := by
      show (oJ M 41 (24 * s) x).1 41 (24 * s + j) = x
      rw [oJ_1, if_pos ⟨rfl, by omega⟩]
    rw [e, mo_co K, if_pos (by omega)]
    exact ⟨by omega, by omega, rfl⟩
theorem s_candidate {S T R : Type} [Lean.Grind.CommRing S] [Lean.Grind.CommRing T] [Lean.Grind.CommRing R] {co : S → Nat → Int} (P : isPol co) {ct : T → Nat → R} (K : isPol ct) {p : Nat} (hp : isZp R p) {φ : Int → R} (hφ : isRed φ p) {M : MI} (hM : ok M) (hm : M.1 36 9 = p) (hm2 : p ≤ 1000000000000) (hod : p % 2 = 1) {m : Nat} (hm10 : m ≤ 10) {q : Nat → T} (hPC : PC ct φ p M m q) (hG : nu ct (pdn q m) ≤ 11) {set : Nat} (hset : set < 1024) {rest : S} (hr : RZ co M 19 rest) (hNr : nu co rest ≤ 11) (hr0 : nu co rest ≠ 0) (hl : 0 < co rest (nu co rest - 1)) (hl2 : 2 * co rest (nu co rest - 1) < p) (hmon : ct (pm q (tb set) m) (nu ct (pm q (tb set) m) - 1) = 1) (hpm0 : nu ct (pm q (tb set) m) ≠ 0) {n : Nat} (hn : 18446744073709551616 ≤ n) :
    ∃ M' l C e, f_X8_candidate n set M = some M' ∧ ok M' ∧ chg [7, 11] M M' ∧ RZ co M' 7 C ∧ nu co C ≤ 11 ∧ (∀ i, nz (co C i) ≤ 1000000000000) ∧ (∀ i, 2 * nz (co l i) < p) ∧ rd P K hp hφ l = mo K (φ (co rest (nu co rest - 1))) 0 * pm q (tb set) m ∧ 0 < e ∧ prim co C ∧ 0 < co C (nu co C - 1) ∧ l = mo P e 0 * C := by
  have hp2 := hp.1.1
  have hF := hp.2.2.1
  have d1 : odI M 42 19 = some ((nu co rest : Int) - 1) := by rw [odI_n (i := 19) 19 rfl rfl (by rw [k42.2]; omega)]; exact congrArg some hr.1
  have d2 : odJ M 41 (456 + ((nu co rest : Int) - 1)) = some (co rest (nu co rest - 1)) := by rw [odJ_n (456 + (nu co rest - 1)) rfl (by omega) (by rw [k41.2]; omega)]; exact congrArg some (hr.2 _ (by omega))
  obtain ⟨h, hh⟩ : ∃ h, co rest (nu co rest - 1) = h := ⟨_, rfl⟩
  rw [hh] at hl hl2 d2 ⊢
  obtain ⟨M1, e1, hok1, hc1, r1, hφ0⟩ := s_constZ K hφ hM (s := 7) (by omega) hl (by omega) hm2
  have e1' : f_X8_constant 7 h M = some M1 := e1
  obtain ⟨M2, e2, hok2, hc2, r2, n2, n3⟩ := s_canL K hp hφ hok1 (by rw [hc1.1 36 9 (by omega)]; exact hm) hm2 hm10 (PC_chm hPC (chm_of (F := []) hc1) (fun s hs => by simp at hs; omega)) hG hset hφ0 r1 hn
  obtain ⟨M3, l, e3, hok3, hc3, r3, hrl, hl1, hNl⟩ := s_center P K hp hφ hok2 (s := 7) (by omega) (by rw [hc2.1 36 9 (by omega), hc1.1 36 9 (by omega)]; exact hm) hm2 hod r2 (by omega) hn
  have e3' : f_X8_center n 7 M2 = some M3 := e3
  obtain ⟨M4, C, e4, hok4, hc4, r4, hlC, hCp, hC1, hNC, hsc⟩ := s_primitiveZ P hok3 (s := 7) (by omega) r3 (by omega) (by omega) (fun i => by have := hl1 i; have := nz_le.mp (show nz (co l i) ≤ 1000000000000 by omega); omega) hn
  have e4' : f_X8_primitive n 7 M3 = some (sc co l, M4) := e4
  have hlci : ∀ i, co l i = sc co l * co C i := fun i => (congrArg (fun x => co x i) hlC).trans (mo_0 P _ _ _)
  have hltop : co l (nu co l - 1) = h := by
    have h1 : φ (co l (nu co l - 1)) = φ h := by
      rw [← rd_co P K hp hφ, hrl, mo_0 K, hNl, n3, hmon]; grind
    obtain ⟨w, hw⟩ := (red_eq hφ).mp h1
    have h2 := hl1 (nu co l - 1)
    unfold nz at h2
    have h3 : w = 0 := by
      rcases Int.lt_trichotomy w 0 with q | q | q
      · have := Int.mul_le_mul_of_nonneg_left (show w ≤ -1 by omega) (show (0 : Int) ≤ p by omega)
        omega
      · exact q
      · have := Int.mul_le_mul_of_nonneg_left (show 1 ≤ w by omega) (show (0 : Int) ≤ p by omega)
        omega
    rw [h3] at hw
    omega
  have hscp : 0 < sc co l := by
    have := hsc
    unfold sc at this ⊢
    rw [hltop] at this ⊢
    rw [if_neg (by omega)] at this ⊢
    omega
  refine ⟨M4, l, C, sc co l, ?_, hok4, chg_mono (chg_trans hc1 (chg_trans hc2 (chg_trans hc3 hc4))) (fun x hx => by simp at hx ⊢; omega), r4, by omega, fun i => ?_, hl1, hrl, hscp, hCp, hC1, hlC⟩
  · unfold f_X8_candidate
    rw [d1, bs, d2, bs, e1', bs, e2, bs, e3', bs, e4', bs]
  · have h1 := hl1 i
    have h2 : nz (co l i) = nz (sc co l) * nz (co C i) := by rw [hlci i, nz_mul]
    have h3 : 1 * nz (co C i) ≤ nz (sc co l) * nz (co C i) := Int.mul_le_mul_of_nonneg_right (by unfold nz; omega) (nz_nn _)
    omega
end MRefS
