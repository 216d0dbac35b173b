/-! the reference's content, squareFree, value, and run for any number -/
section MRop4
theorem s_ld8 {S : Type} [Lean.Grind.CommRing S] {co : S → Nat → Int} (P : isPol co) {M : MI} (hM : ok M) {p : Nat} (hp : p < 80) {n : Nat} (hn : 18446744073709551616 ≤ n) : ∃ M', f_X8_load n p 0 (oI M 36 3 0) = some M' ∧ ok M' ∧ ko M M' ∧ sm8 M M' ∧ M'.2 36 3 = 0 ∧ RZ co M' 0 (po8 P M p) := by
  obtain ⟨M1, e1, hok1, hc1, r1⟩ := s_load P (ok_oI hM (by omega) : ok (oI M 36 3 0)) (p := p) (s := 0) hp (by omega) (f := po8 P M p) (fun k hk => by rw [oI_2, if_neg (by omega)]; exact cpo_lo P _ hk) (fun k hk => cpo_hi P _ hk) hn
  exact ⟨M1, e1, hok1, ko_trans (ko_oI M (a := 36) (by omega) 3 0) (ko_chm (F := []) (chm_of hc1)), sm8_trans (sm8_fl M (i := 3) (by omega) (by omega) 0) (sm8_chm (F := []) (chm_of hc1) (by simp) (by simp)), by rw [hc1.2.1 36 3 (by omega)]; exact th_fl M 0, r1⟩
noncomputable def cont {S : Type} [Lean.Grind.CommRing S] (co : S → Nat → Int) (f : S) : Int := if nu co f = 0 then 0 else sc co f
theorem s_content8 {S : Type} [Lean.Grind.CommRing S] {co : S → Nat → Int} (P : isPol co) {M : MI} (hM : ok M) (hbd : bd8 M) {a : Int} (ha : inI a) {n : Nat} (hn : 18446744073709551616 ≤ n) : ∃ r M', f_X8_content n a M = some (r, M') ∧ ok M' ∧ ko M M' ∧ sm8 M M' ∧ ((¬ (0 ≤ a ∧ a < 80) ∧ M'.2 36 3 = 1) ∨ ((0 ≤ a ∧ a < 80) ∧ M'.2 36 3 = 0 ∧ r = cont co (po8 P M a.toNat))) := by
  by_cases h1 : 0 ≤ a ∧ a < 80
  · obtain ⟨M1, e1, hok1, hko1, hsm1, ht1, r1⟩ := s_ld8 P hM (p := a.toNat) (by omega) hn
    rw [show ((a.toNat : Nat) : Int) = a by omega] at e1
    have nA := po8_N P M a.toNat
    have xA := po8_X P hbd (p := a.toNat) (by omega)
    obtain ⟨c, M2, A1, e2, hok2, hc2, -, -, -, -, hcs, hc0⟩ := s_prim01 P hok1 (s := 0) (by omega) r1 nA xA hn
    have e2' : f_X8_primitive n 0 M1 = some (c, M2) := e2
    have hcc : c = cont co (po8 P M a.toNat) := by
      unfold cont
      by_cases z : nu co (po8 P M a.toNat) = 0
      · rw [if_pos z]; exact hc0 z
      · rw [if_neg z]; exact hcs z
    have hcJ : inJ c := by
      rw [hcc]
      unfold cont
      split
      · omega
      · have : (sc co (po8 P M a.toNat)).natAbs ≤ 9999 := by
          have h2 : (sc co (po8 P M a.toNat)).natAbs = cg (co (po8 P M a.toNat)) (nu co (po8 P M a.toNat)) := by unfold sc; split <;> omega
          rw [h2]
          exact cg_le (fun i _ => by have := xA i; unfold nz at this; omega)
        omega
    refine ⟨c, M2, ?_, hok2, ko_trans hko1 (ko_chm (F := []) (chm_of hc2)), sm8_trans hsm1 (sm8_chm (F := []) (chm_of hc2) (by simp) (by simp)), Or.inr ⟨h1, by rw [hc2.2.1 36 3 (by omega)]; exact ht1, hcc⟩⟩
    unfold f_X8_content opI
    rw [s_isPoly a ha, bs, if_pos h1, gI_s (by omega) (by omega), bs, if_neg (by omega), bs, bs, th_fl, gI_s (by omega) (by omega), bs, if_pos rfl, e1, bs, e2', bs]
    dsimp only
    rw [gJ_s hcJ (by omega), bs]
  · refine ⟨0, oI M 36 3 1, ?_, ok_oI hM (by omega), ko_oI M (a := 36) (by omega) 3 1, sm8_fl M (by omega) (by omega) 1, Or.inl ⟨h1, th_fl M 1⟩⟩
    unfold f_X8_content opI
    rw [s_isPoly a ha, bs, if_neg h1, gI_s (by omega) (by omega), bs, if_pos rfl, bs, bs, th_fl, gI_s (by omega) (by omega), bs, if_neg (by omega)]
theorem dr_sc {S : Type} [Lean.Grind.CommRing S] {co : S → Nat → Int} (P : isPol co) (c : Int) (f : S) : dr P (mo P c 0 * f) = mo P c 0 * dr P f := p_ext P (fun i => by rw [dr_co P, mo_0 P, mo_0 P, dr_co P]; grind)
theorem s_squareFree8 {S : Type} [Lean.Grind.CommRing S] {co : S → Nat → Int} (P : isPol co) {M : MI} (hM : ok M) (hpb : ∀ k, k < 20 → M.2 37 k = PB k) (hbd : bd8 M) {a : Int} (ha : inI a) {n : Nat} (hn : 18446744073709551616 ≤ n) : ∃ r M', f_X8_squareFree n a M = some (r, M') ∧ ok M' ∧ ko M M' ∧ sm8 M M' ∧ ((¬ (0 ≤ a ∧ a < 80) ∧ M'.2 36 3 = 1) ∨ ((0 ≤ a ∧ a < 80) ∧ M'.2 36 3 = 0 ∧ ((nu co (po8 P M a.toNat) = 0 ∧ r = 0) ∨ (nu co (po8 P M a.toNat) = 1 ∧ r = 1) ∨ (2 ≤ nu co (po8 P M a.toNat) ∧ ∃ d, isG P (po8 P M a.toNat) (dr P (po8 P M a.toNat)) d ∧ r = if nu co d = 1 then 1 else 0)))) := by
  by_cases h1 : 0 ≤ a ∧ a < 80
  · obtain ⟨M1, e1, hok1, hko1, hsm1, ht1, r1⟩ := s_ld8 P hM (p := a.toNat) (by omega) hn
    rw [show ((a.toNat : Nat) : Int) = a by omega] at e1
    have nA := po8_N P M a.toNat
    have xA := po8_X P hbd (p := a.toNat) (by omega)
    obtain ⟨A, hA⟩ : ∃ A, po8 P M a.toNat = A := ⟨_, rfl⟩
    rw [hA] at nA xA r1 ⊢
    have d5 : odI M1 42 0 = some ((nu co A : Int) - 1) := by rw [odI_n (i := 0) 0 rfl rfl (by rw [k42.2]; omega)]; exact congrArg some r1.1
    by_cases h2 : 2 ≤ nu co A
    · obtain ⟨c, M2, A1, e2, hok2, hc2, r2, ⟨dA, hdA, hAA⟩, nA1, xA1, -, -⟩ := s_prim01 P hok1 (s := 0) (by omega) r1 nA xA hn
      have e2' : f_X8_primitive n 0 M1 = some (c, M2) := e2
      obtain ⟨M3, e3, hok3, hc3, r3⟩ := s_derive P hok2 (a := 0) (b := 2) (by omega) (by omega) (by omega) r2 (by omega) (by omega) (fun i => by have := xA1 i; omega) hn
      have e3' : f_X8_derive n 0 2 M2 = some M3 := e3
      have hND := nu_dr P (f := A1) (by omega)
      have hXD : ∀ i, nz (co (dr P A1) i) ≤ 99990 := fun i => by
        rcases Nat.lt_or_ge i 10 with q | q
        · rw [dr_co P, nt_int]
          have h1 : nz ((i + 1 : Nat) : Int) ≤ 10 := by unfold nz; omega
          have := nz_mul_le h1 (xA1 (i + 1))
          omega
        · rw [nu_hi P _ (by omega)]; decide
      have r03 := RZ_chg r2 hc3 (by simp) (by omega)
      have hko3 : ko M M3 := ko_trans hko1 (ko_chm (F := []) (chm_of (chg_trans hc2 hc3)))
      have hsm3 : sm8 M M3 := sm8_trans hsm1 (sm8_chm (F := []) (chm_of (chg_trans hc2 hc3)) (by simp) (by simp))
      obtain ⟨M4, d, e4, hok4, hc4, r4, hd, nd⟩ := s_commonWhole P hok3 (a := 0) (b := 2) (c := 11) (by omega) (by omega) (by omega) (by omega) (by omega) (by omega) (by omega) (by omega) (by omega) (by omega) (by omega) (by omega) (by omega) (fun k hk => by rw [hko3.2 37 k (by omega)]; exact hpb k hk) r03 r3 (by omega) (by omega) (by omega) (by omega) (fun i => by have := xA1 i; omega) hXD hn
      have e4' : f_X8_commonWhole n 0 2 11 M3 = some M4 := e4
      have d10 : odI M4 42 11 = some ((nu co d : Int) - 1) := by rw [odI_n (i := 11) 11 rfl rfl (by rw [k42.2]; omega)]; exact congrArg some r4.1
      have hdA' : isG P A (dr P A) d := isG_sc P hdA hdA hAA (by rw [hAA, dr_sc]) hd
      refine ⟨(if nu co d = 1 then 1 else 0), M4, ?_, hok4, ko_trans hko3 (ko_chm hc4), sm8_trans hsm3 (sm8_chm hc4 (by simp) (by simp)), Or.inr ⟨h1, by rw [hc4.2.1 36 3 (by omega) (by simp), hc3.2.1 36 3 (by omega), hc2.2.1 36 3 (by omega)]; exact ht1, Or.inr (Or.inr ⟨h2, d, hdA', rfl⟩)⟩⟩
      unfold f_X8_squareFree opI
      rw [s_isPoly a ha, bs, if_pos h1, gI_s (by omega) (by omega), bs, if_neg (by omega), bs, bs, th_fl, gI_s (by omega) (by omega), bs, if_pos rfl, e1, bs, d5, bs, gI_s (by omega) (by omega), bs, if_pos (by omega), e2', bs]
      dsimp only
      rw [e3', bs, e4', bs, d10, bs, gI_s (by omega) (by omega), bs]
      by_cases z : nu co d = 1
      · rw [if_pos (by omega), if_pos z]; rfl
      · rw [if_neg (by omega), if_neg z]; rfl
    · refine ⟨(if nu co A = 1 then 1 else 0), M1, ?_, hok1, hko1, hsm1, Or.inr ⟨h1, ht1, ?_⟩⟩
      · unfold f_X8_squareFree opI
        rw [s_isPoly a ha, bs, if_pos h1, gI_s (by omega) (by omega), bs, if_neg (by omega), bs, bs, th_fl, gI_s (by omega) (by omega), bs, if_pos rfl, e1, bs, d5, bs, gI_s (by omega) (by omega), bs, if_neg (by omega), bs, gI_s (by omega) (by omega), bs]
        by_cases z : nu co A = 1
        · rw [if_pos (by omega), if_pos z]; rfl
        · rw [if_neg (by omega), if_neg z]; rfl
      · by_cases z : nu co A = 1
        · exact Or.inr (Or.inl ⟨z, by rw [if_pos z]⟩)
        · exact Or.inl ⟨by omega, by rw [if_neg z]⟩
  · refine ⟨0, oI M 36 3 1, ?_, ok_oI hM (by omega), ko_oI M (a := 36) (by omega) 3 1, sm8_fl M (by omega) (by omega) 1, Or.inl ⟨h1, th_fl M 1⟩⟩
    unfold f_X8_squareFree opI
    rw [s_isPoly a ha, bs, if_neg h1, gI_s (by omega) (by omega), bs, if_pos rfl, bs, bs, th_fl, gI_s (by omega) (by omega), bs, if_neg (by omega)]
/-- Horner's sums from the top -/
def hv (c : Nat → Int) (x : Int) : Nat → Int
  | 0 => 0
  | t + 1 => hv c x t * x + c (10 - t)
theorem s_value8 {M : MI} (hM : ok M) (hbd : bd8 M) {a x m : Int} (ha : inI a) (hx : inI x) (hm : inI m) {n : Nat} (hn : 18446744073709551616 ≤ n) : ∃ r t, f_X8_value n a x m M = some (r, oI M 36 3 t) ∧ inI t ∧ ((¬ (0 ≤ a ∧ a < 80) ∧ t = 1) ∨ ((0 ≤ a ∧ a < 80) ∧ ¬ (1 ≤ m ∧ m ≤ 1000000) ∧ t = 2) ∨ ((0 ≤ a ∧ a < 80) ∧ (1 ≤ m ∧ m ≤ 1000000) ∧ t = 0 ∧ r = hv (fun j => M.2 38 (11 * a.toNat + j)) x 11 % m)) := by
  by_cases h1 : 0 ≤ a ∧ a < 80
  · by_cases h2 : 1 ≤ m ∧ m ≤ 1000000
    · obtain ⟨c, hc⟩ : ∃ c : Nat → Int, c = fun j => M.2 38 (11 * a.toNat + j) := ⟨_, rfl⟩
      have hcb : ∀ j, j < 11 → -9999 ≤ c j ∧ c j ≤ 9999 := fun j hj => by rw [hc]; exact nz_le.mp (hbd a.toNat j (by omega) hj)
      obtain ⟨v, hv1, hv2, hv3⟩ := lp_do (step := l_X8_value_47 a x m (oI M 36 3 0)) (fun st => ∃ t : Nat, t ≤ 11 ∧ st.2 = 10 - (t : Int) ∧ -m < st.1 ∧ st.1 < m ∧ m ∣ st.1 - hv c x t) (fun st => (st.2 + 1).toNat) (fun v => (-m < v ∧ v < m) ∧ m ∣ v - hv c x 11) (fun st hst => by
        obtain ⟨v, y⟩ := st
        obtain ⟨t, ht, hy, hl, hu, hd⟩ := hst
        dsimp only at hy hl hu hd
        subst hy
        unfold l_X8_value_47
        dsimp only
        rw [gI_s (by omega) (by omega), bs]
        by_cases hlt : 10 - (t : Int) < 0
        · rw [if_pos hlt]
          have e : t = 11 := by omega
          rw [e] at hd
          exact Or.inl ⟨_, rfl, ⟨hl, hu⟩, hd⟩
        · have hcb1 := hcb (10 - t) (by omega)
          have e7 : odI (oI M 36 3 0) 38 (11 * a + (10 - (t : Int))) = some (c (10 - t)) := by rw [odI_n (11 * a.toNat + (10 - t)) rfl (by omega) (by rw [k38.2]; omega), oI_2, if_neg (by omega), hc]
          have hb1 : nz (v * x) ≤ 1000000 * 2147483648 := nz_mul_le (by rw [nz_le]; omega) (by rw [nz_le]; omega)
          rw [nz_le] at hb1
          have er : orJ (v * x + c (10 - t)) m = some ((v * x + c (10 - t)).tmod m) := by unfold orJ; rw [if_pos ⟨by omega, by omega, by omega, by omega⟩]
          have hr1 : ((v * x + c (10 - t)).tmod m).natAbs < m.natAbs := by
            rw [Int.natAbs_tmod]
            exact Nat.mod_lt _ (by omega)
          rw [if_neg hlt, gI_s hx (by omega), bs, e7, bs, gI_s (by omega) (by omega), bs, gI_s hm (by omega), bs, er, bs]
          refine Or.inr ⟨_, rfl, ⟨t + 1, by omega, by dsimp only; omega, by dsimp only; omega, by dsimp only; omega, ?_⟩, by dsimp only; omega⟩
          dsimp only
          obtain ⟨w, hw⟩ := hd
          have h5 := Int.mul_tdiv_add_tmod (v * x + c (10 - t)) m
          have e6 : hv c x (t + 1) = hv c x t * x + c (10 - t) := rfl
          have e8 : hv c x t = v - m * w := by omega
          refine ⟨w * x - (v * x + c (10 - t)).tdiv m, ?_⟩
          rw [e6, e8]
          have : (v * x + c (10 - t)).tmod m = v * x + c (10 - t) - m * (v * x + c (10 - t)).tdiv m := by omega
          rw [this]
          grind) n (0, 10) ⟨0, by omega, by dsimp only; omega, by dsimp only; omega, by dsimp only; omega, ⟨0, by simp [hv]⟩⟩ (by dsimp only; omega)
      refine ⟨hv c x 11 % m, 0, ?_, by omega, Or.inr (Or.inr ⟨h1, h2, rfl, by rw [hc]⟩)⟩
      have hfix : (if 0 ≤ v then some v else some (v + m)) = some (hv c x 11 % m) := by
        obtain ⟨w, hw⟩ := hv3
        have e1 : hv c x 11 % m = v % m := by
          have : hv c x 11 = v + m * (-w) := by rw [Int.mul_neg]; omega
          rw [this, Int.add_mul_emod_self_left]
        rw [e1]
        by_cases z : 0 ≤ v
        · rw [if_pos z, Int.emod_eq_of_lt z (by omega)]
        · rw [if_neg z]
          have : v % m = (v + m) % m := by rw [Int.add_emod_right]
          rw [this, Int.emod_eq_of_lt (by omega) (by omega)]
      have hrr : 0 ≤ hv c x 11 % m ∧ hv c x 11 % m < m := ⟨Int.emod_nonneg _ (by omega), Int.emod_lt_of_pos _ (by omega)⟩
      unfold f_X8_value opI
      rw [s_isPoly a ha, bs, if_pos h1, gI_s (by omega) (by omega), bs, if_neg (by omega), gI_s hm (by omega), bs, if_neg (by omega), gI_s hm (by omega), bs, if_pos h2.2, bs, bs, th_fl, gI_s (by omega) (by omega), bs, if_pos rfl, hv1, bs, gJ_s (by omega) (by omega), bs, gI_s hm (by omega), bs, hfix, bs, gJ_s (by omega) (by omega), bs]
    · refine ⟨0, 2, ?_, by omega, Or.inr (Or.inl ⟨h1, h2, rfl⟩)⟩
      unfold f_X8_value opI
      rw [s_isPoly a ha, bs, if_pos h1, gI_s (by omega) (by omega), bs, if_neg (by omega), gI_s hm (by omega), bs]
      by_cases z : m < 1
      · rw [if_pos z, bs, bs, th_fl, gI_s (by omega) (by omega), bs, if_neg (by omega)]
      · rw [if_neg z, gI_s hm (by omega), bs, if_neg (by omega), bs, bs, th_fl, gI_s (by omega) (by omega), bs, if_neg (by omega)]
  · refine ⟨0, 1, ?_, by omega, Or.inl ⟨h1, rfl⟩⟩
    unfold f_X8_value opI
    rw [s_isPoly a ha, bs, if_neg h1, gI_s (by omega) (by omega), bs, if_pos rfl, bs, bs, th_fl, gI_s (by omega) (by omega), bs, if_neg (by omega)]
theorem s_run0 {M : MI} (hM : ok M) {a : Int} (ha : inI a) (h1 : ¬ (0 ≤ a ∧ a < 80)) {n : Nat} : f_X8_run n a M = some (0, oI M 36 3 1) := by
  unfold f_X8_run opI
  rw [s_isPoly a ha, bs, if_neg h1, gI_s (by omega) (by omega), bs, if_pos rfl, bs, bs, th_fl, gI_s (by omega) (by omega), bs, if_neg (by omega)]
end MRop4
