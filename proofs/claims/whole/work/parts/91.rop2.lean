/-! the reference's times, over, gcd, content, squareFree -/
section MRop2
noncomputable def cpo {S : Type} [Lean.Grind.CommRing S] {co : S → Nat → Int} (P : isPol co) (v : Nat → Int) : S := Classical.choose (P.2.2.2.2.1 (fun i => if i < 11 then v i else 0) 11 (fun i hi => if_neg (by omega)))
theorem cpo_co {S : Type} [Lean.Grind.CommRing S] {co : S → Nat → Int} (P : isPol co) (v : Nat → Int) (i : Nat) : co (cpo P v) i = if i < 11 then v i else 0 := Classical.choose_spec (P.2.2.2.2.1 (fun i => if i < 11 then v i else 0) 11 (fun i hi => if_neg (by omega))) i
theorem cpo_lo {S : Type} [Lean.Grind.CommRing S] {co : S → Nat → Int} (P : isPol co) (v : Nat → Int) {i : Nat} (hi : i < 11) : co (cpo P v) i = v i := by rw [cpo_co P, if_pos hi]
theorem cpo_hi {S : Type} [Lean.Grind.CommRing S] {co : S → Nat → Int} (P : isPol co) (v : Nat → Int) {i : Nat} (hi : 11 ≤ i) : co (cpo P v) i = 0 := by rw [cpo_co P, if_neg (by omega)]
theorem cpo_N {S : Type} [Lean.Grind.CommRing S] {co : S → Nat → Int} (P : isPol co) (v : Nat → Int) : nu co (cpo P v) ≤ 11 := nu_le P (fun i hi => cpo_hi P v hi)
theorem cpo_X {S : Type} [Lean.Grind.CommRing S] {co : S → Nat → Int} (P : isPol co) {v : Nat → Int} (h : ∀ i, i < 11 → nz (v i) ≤ 9999) (i : Nat) : nz (co (cpo P v) i) ≤ 9999 := by
  rw [cpo_co P]
  split
  · exact h i (by assumption)
  · decide
theorem cpo_congr {S : Type} [Lean.Grind.CommRing S] {co : S → Nat → Int} (P : isPol co) {v w : Nat → Int} (h : ∀ i, i < 11 → v i = w i) : cpo P v = cpo P w := p_ext P (fun i => by
  rw [cpo_co P, cpo_co P]
  split
  · exact h i (by assumption)
  · rfl)
/-- the polynomial that stands under a number in the reference -/
noncomputable def po8 {S : Type} [Lean.Grind.CommRing S] {co : S → Nat → Int} (P : isPol co) (M : MI) (p : Nat) : S := cpo P (fun j => M.2 38 (11 * p + j))
def bd8 (M : MI) : Prop := ∀ p j, p < 80 → j < 11 → nz (M.2 38 (11 * p + j)) ≤ 9999
theorem s_refuses {S : Type} [Lean.Grind.CommRing S] {co : S → Nat → Int} (P : isPol co) {M : MI} (hM : ok M) {g : Nat} (hg : M.2 36 2 = g) (hg80 : g ≤ 80) {a b : Int} (ha : inI a) (hb : inI b) {n : Nat} (hn : 18446744073709551616 ≤ n) : ∃ r M', f_X8_refuses n a b M = some (r, M') ∧ ok M' ∧ ko M M' ∧ sm8 M M' ∧ ((¬ (0 ≤ a ∧ a < 80 ∧ 0 ≤ b ∧ b < 80) ∧ r = 1 ∧ M'.2 36 3 = 1) ∨ ((0 ≤ a ∧ a < 80 ∧ 0 ≤ b ∧ b < 80) ∧ g = 80 ∧ r = 1 ∧ M'.2 36 3 = 2) ∨ ((0 ≤ a ∧ a < 80 ∧ 0 ≤ b ∧ b < 80) ∧ g < 80 ∧ r = 0 ∧ M'.2 36 3 = 0 ∧ RZ co M' 0 (po8 P M a.toNat) ∧ RZ co M' 1 (po8 P M b.toNat))) := by
  unfold f_X8_refuses opI
  rw [s_isPoly a ha, bs]
  by_cases h1 : 0 ≤ a ∧ a < 80
  · rw [if_pos h1, gI_s (by omega) (by omega), bs, if_neg (by omega), s_isPoly b hb, bs]
    by_cases h2 : 0 ≤ b ∧ b < 80
    · rw [if_pos h2, gI_s (by omega) (by omega), bs, if_neg (by omega), hg, gI_s (by omega) (by omega), bs]
      by_cases h3 : (g : Int) = 80
      · refine ⟨1, oI M 36 3 2, ?_, ok_oI hM (by omega), ko_oI M (a := 36) (by omega) 3 2, sm8_fl M (by omega) (by omega) 2, Or.inr (Or.inl ⟨by omega, by omega, rfl, th_fl M 2⟩)⟩
        rw [if_pos h3, bs, bs, th_fl, gI_s (by omega) (by omega), bs, if_neg (by omega)]
      · obtain ⟨M1, e1, hok1, hc1, r1⟩ := s_load P (ok_oI hM (by omega) : ok (oI M 36 3 0)) (p := a.toNat) (s := 0) (by omega) (by omega) (f := po8 P M a.toNat) (fun k hk => by rw [oI_2, if_neg (by omega)]; exact cpo_lo P _ hk) (fun k hk => cpo_hi P _ hk) hn
        have e1' : f_X8_load n a 0 (oI M 36 3 0) = some M1 := by rw [← e1]; congr 1; omega
        obtain ⟨M2, e2, hok2, hc2, r2⟩ := s_load P hok1 (p := b.toNat) (s := 1) (by omega) (by omega) (f := po8 P M b.toNat) (fun k hk => by rw [hc1.2.1 38 _ (by omega), oI_2, if_neg (by omega)]; exact cpo_lo P _ hk) (fun k hk => cpo_hi P _ hk) hn
        have e2' : f_X8_load n b 1 M1 = some M2 := by rw [← e2]; congr 1; omega
        have hc := chg_trans hc1 hc2
        refine ⟨0, M2, ?_, hok2, ko_trans (ko_oI M (a := 36) (by omega) 3 0) ⟨fun k i x _ => hc.1 k i x, fun k i x => hc.2.1 k i (by omega)⟩, sm8_trans (sm8_fl M (i := 3) (by omega) (by omega) 0) ⟨fun i => hc.2.1 38 i (by omega), fun i => hc.2.1 39 i (by omega), fun i => hc.2.1 40 i (by omega), hc.2.1 36 2 (by omega), hc.2.1 36 4 (by omega)⟩, Or.inr (Or.inr ⟨by omega, by omega, rfl, by rw [hc.2.1 36 3 (by omega)]; exact th_fl M 0, RZ_chg r1 hc2 (by simp) (by have := cpo_N P (fun j => M.2 38 (11 * a.toNat + j)); unfold po8; omega), r2⟩)⟩
        rw [if_neg h3, bs, bs, th_fl, gI_s (by omega) (by omega), bs, if_pos rfl, e1', bs, e2', bs]
    · refine ⟨1, oI M 36 3 1, ?_, ok_oI hM (by omega), ko_oI M (a := 36) (by omega) 3 1, sm8_fl M (by omega) (by omega) 1, Or.inl ⟨by omega, rfl, th_fl M 1⟩⟩
      rw [if_neg h2, gI_s (by omega) (by omega), bs, if_pos rfl, bs, bs, th_fl, gI_s (by omega) (by omega), bs, if_neg (by omega)]
  · refine ⟨1, oI M 36 3 1, ?_, ok_oI hM (by omega), ko_oI M (a := 36) (by omega) 3 1, sm8_fl M (by omega) (by omega) 1, Or.inl ⟨by omega, rfl, th_fl M 1⟩⟩
    rw [if_neg h1, gI_s (by omega) (by omega), bs, if_pos rfl, bs, bs, th_fl, gI_s (by omega) (by omega), bs, if_neg (by omega)]
theorem po8_X {S : Type} [Lean.Grind.CommRing S] {co : S → Nat → Int} (P : isPol co) {M : MI} (h : bd8 M) {p : Nat} (hp : p < 80) (i : Nat) : nz (co (po8 P M p) i) ≤ 9999 := cpo_X P (fun j hj => h p j hp hj) i
theorem po8_N {S : Type} [Lean.Grind.CommRing S] {co : S → Nat → Int} (P : isPol co) (M : MI) (p : Nat) : nu co (po8 P M p) ≤ 11 := cpo_N P _
theorem ko_chm {Rs F : List Nat} {M M' : MI} (h : chm Rs F M M') : ko M M' := ⟨h.1, fun k i a => h.2.1 k i (by omega) (by omega)⟩
theorem sm8_chm {Rs F : List Nat} {M M' : MI} (h : chm Rs F M M') (h2 : 2 ∉ F) (h4 : 4 ∉ F) : sm8 M M' := ⟨fun i => h.2.1 38 i (by omega) (by omega), fun i => h.2.1 39 i (by omega) (by omega), fun i => h.2.1 40 i (by omega) (by omega), h.2.1 36 2 (by omega) (fun z => h2 z.2), h.2.1 36 4 (by omega) (fun z => h4 z.2)⟩
theorem RZ_v {S : Type} [Lean.Grind.CommRing S] {co : S → Nat → Int} (P : isPol co) {M : MI} {s : Nat} {f : S} (hf : RZ co M s f) (k : Nat) : co f k = if (k : Int) ≤ dg M s then wv M s k else 0 := by
  rw [hf.1]
  by_cases z : k < nu co f
  · rw [if_pos (by omega), hf.2 k z]
  · rw [if_neg (by omega), nu_hi P f (by omega)]
theorem s_over8 {S : Type} [Lean.Grind.CommRing S] {co : S → Nat → Int} (P : isPol co) {M : MI} (hM : ok M) (hbd : bd8 M) {g : Nat} (hg : M.2 36 2 = g) (hg80 : g ≤ 80) {a b : Int} (ha : inI a) (hb : inI b) {n : Nat} (hn : 18446744073709551616 ≤ n) : ∃ r M', f_X8_over n a b M = some (r, M') ∧ ok M' ∧ ko M M' ∧ ((¬ (0 ≤ a ∧ a < 80 ∧ 0 ≤ b ∧ b < 80) ∧ M'.2 36 3 = 1 ∧ sm8 M M') ∨ ((0 ≤ a ∧ a < 80 ∧ 0 ≤ b ∧ b < 80) ∧ g = 80 ∧ M'.2 36 3 = 2 ∧ sm8 M M') ∨ ((0 ≤ a ∧ a < 80 ∧ 0 ≤ b ∧ b < 80) ∧ g < 80 ∧ po8 P M b.toNat = 0 ∧ M'.2 36 3 = 3 ∧ sm8 M M') ∨ ((0 ≤ a ∧ a < 80 ∧ 0 ≤ b ∧ b < 80) ∧ g < 80 ∧ po8 P M b.toNat ≠ 0 ∧ M'.2 36 3 = 0 ∧ ((∃ q, po8 P M a.toNat = po8 P M b.toNat * q ∧ sml co q ∧ r = g ∧ app8 M M' (co q)) ∨ ((¬ ∃ q, po8 P M a.toNat = po8 P M b.toNat * q ∧ sml co q) ∧ r = -1 ∧ sm8 M M')))) := by
  obtain ⟨r0, M1, e1, hok1, hko1, hsm1, h1⟩ := s_refuses P hM hg hg80 ha hb hn
  rcases h1 with ⟨hbad, hr, ht⟩ | ⟨hgood, hfull, hr, ht⟩ | ⟨hgood, hfree, hr, ht, rA, rB⟩
  · refine ⟨0, M1, ?_, hok1, hko1, Or.inl ⟨hbad, ht, hsm1⟩⟩
    unfold f_X8_over
    rw [e1, bs]; dsimp only
    rw [hr, gI_s (by omega) (by omega), bs, if_neg (by omega)]
  · refine ⟨0, M1, ?_, hok1, hko1, Or.inr (Or.inl ⟨hgood, hfull, ht, hsm1⟩)⟩
    unfold f_X8_over
    rw [e1, bs]; dsimp only
    rw [hr, gI_s (by omega) (by omega), bs, if_neg (by omega)]
  · subst hr
    have nB := po8_N P M b.toNat
    have nA := po8_N P M a.toNat
    have xA := po8_X P hbd (p := a.toNat) (by omega)
    have xB := po8_X P hbd (p := b.toNat) (by omega)
    obtain ⟨A, hA⟩ : ∃ A, po8 P M a.toNat = A := ⟨_, rfl⟩
    obtain ⟨B, hB⟩ : ∃ B, po8 P M b.toNat = B := ⟨_, rfl⟩
    rw [hA] at nA xA rA ⊢
    rw [hB] at nB xB rB ⊢
    have d3 : odI M1 42 1 = some ((nu co B : Int) - 1) := by rw [odI_n (i := 1) 1 rfl rfl (by rw [k42.2]; omega)]; exact congrArg some rB.1
    by_cases h0 : nu co B = 0
    · refine ⟨0, oI M1 36 3 3, ?_, ok_oI hok1 (by omega), ko_trans hko1 (ko_oI M1 (a := 36) (by omega) 3 3), Or.inr (Or.inr (Or.inl ⟨hgood, hfree, (nu_zero P).mp h0, th_fl M1 3, sm8_trans hsm1 (sm8_fl M1 (by omega) (by omega) 3)⟩))⟩
      unfold f_X8_over opI
      rw [e1, bs]; dsimp only
      rw [gI_s (by omega) (by omega), bs, if_pos rfl, d3, bs, gI_s (by omega) (by omega), bs, if_neg (by omega), bs, bs, th_fl, gI_s (by omega) (by omega), bs, if_neg (by omega)]
    · have hB0 : B ≠ 0 := fun z => h0 ((nu_zero P).mpr z)
      have hok2 : ok (oI M1 36 3 0) := ok_oI hok1 (by omega)
      have rA2 := RZ_fl rA 3 0
      have rB2 := RZ_fl rB 3 0
      have hko2 : ko M (oI M1 36 3 0) := ko_trans hko1 (ko_oI M1 (a := 36) (by omega) 3 0)
      have hsm2 : sm8 M (oI M1 36 3 0) := sm8_trans hsm1 (sm8_fl M1 (by omega) (by omega) 0)
      have hdiv : ∃ M2 v6, f_X8_divides n 1 0 9999 (oI M1 36 3 0) = some (v6, M2) ∧ ok M2 ∧ chg [3, 4] (oI M1 36 3 0) M2 ∧ ((v6 = 1 ∧ ∃ q, A = B * q ∧ sml co q ∧ ∀ k, co q k = if (k : Int) ≤ dg M2 3 then wv M2 3 k else 0) ∨ (v6 = 0 ∧ ¬ ∃ q, A = B * q ∧ sml co q)) := by
        by_cases hA0 : nu co A = 0
        · obtain ⟨M2, hok, hc, e, hd⟩ := s_divides0 P hok2 (g := 1) (a := 0) (b := 9999) (by omega) (by omega) (by omega) (by omega) (by omega) rB2 rA2 (by omega) hA0 h0 (fun i => by have := xB i; omega) hn
          refine ⟨M2, 1, e, hok, hc, Or.inl ⟨rfl, 0, by rw [(nu_zero P).mp hA0]; grind, ⟨by rw [(nu_zero P).mpr rfl]; omega, fun i => by rw [p_zero P]; decide⟩, fun k => ?_⟩⟩
          rw [if_neg (by omega), p_zero P]
        · obtain ⟨M2, hok, hc, hd⟩ := s_divides P hok2 (g := 1) (a := 0) (by omega) (by omega) (by omega) (by omega) (by omega) (by omega) (b := 9999) (by omega) (by omega) rB2 rA2 (by omega) (by omega) hA0 (fun i => by have := nz_le.mp (xB i); omega) (fun i => by have := xA i; omega) hn
          have key : ∀ q, A = B * q → nu co q ≤ 11 := fun q hq => by
            have hq0 : q ≠ 0 := fun z => hA0 ((nu_zero P).mpr (by rw [hq, z]; grind))
            have := nu_mul P int_D hB0 hq0
            rw [← hq] at this
            omega
          rcases hd with ⟨e, q, hq, rq, hqb, -⟩ | ⟨e, hno⟩
          · exact ⟨M2, 1, e, hok, hc, Or.inl ⟨rfl, q, hq, ⟨key q hq, hqb⟩, fun k => RZ_v P rq k⟩⟩
          · exact ⟨M2, 0, e, hok, hc, Or.inr ⟨rfl, fun ⟨q, hq, hs⟩ => hno ⟨fun i => by have := xB i; omega, q, hq, hs.2⟩⟩⟩
      obtain ⟨M2, v6, e6, hok3, hc3, h6⟩ := hdiv
      have hko3 : ko M M2 := ko_trans hko2 (ko_chm (F := []) (chm_of hc3))
      have hsm3 : sm8 M M2 := sm8_trans hsm2 (sm8_chm (F := []) (chm_of hc3) (by simp) (by simp))
      have ht3 : M2.2 36 3 = 0 := by rw [hc3.2.1 36 3 (by omega)]; exact th_fl M1 0
      rcases h6 with ⟨hv, q, hq, hs, hqv⟩ | ⟨hv, hno⟩
      · subst hv
        obtain ⟨M3, e3, hok4, hko4, ha4, ht4⟩ := s_keepR hok3 (s := 3) (g := g) (by omega) (by rw [hsm3.2.2.2.1]; exact hg) hfree (v := co q) (fun k _ => hqv k) (fun k _ => by have := nz_le.mp (hs.2 k); omega) hn
        have e3' : f_X8_store n 3 M2 = some ((g : Int), M3) := e3
        refine ⟨g, M3, ?_, hok4, ko_trans hko3 hko4, Or.inr (Or.inr (Or.inr ⟨hgood, hfree, hB0, by rw [ht4]; exact ht3, Or.inl ⟨q, hq, hs, rfl, app8_sm hsm3 ha4⟩⟩))⟩
        unfold f_X8_over opI
        rw [e1, bs]; dsimp only
        rw [gI_s (by omega) (by omega), bs, if_pos rfl, d3, bs, gI_s (by omega) (by omega), bs, if_pos (by omega), bs, bs, th_fl, gI_s (by omega) (by omega), bs, if_pos rfl, e6, bs]; dsimp only
        rw [gI_s (by omega) (by omega), bs, if_neg (by omega), e3', bs, bs]
      · subst hv
        refine ⟨-1, M2, ?_, hok3, hko3, Or.inr (Or.inr (Or.inr ⟨hgood, hfree, hB0, ht3, Or.inr ⟨hno, rfl, hsm3⟩⟩))⟩
        unfold f_X8_over opI
        rw [e1, bs]; dsimp only
        rw [gI_s (by omega) (by omega), bs, if_pos rfl, d3, bs, gI_s (by omega) (by omega), bs, if_pos (by omega), bs, bs, th_fl, gI_s (by omega) (by omega), bs, if_pos rfl, e6, bs]; dsimp only
        rw [gI_s (by omega) (by omega), bs, if_pos rfl, bs]
theorem isG_sc {S : Type} [Lean.Grind.CommRing S] {co : S → Nat → Int} (P : isPol co) {A B A1 B1 g : S} {c d : Int} (hc : c ≠ 0) (hd : d ≠ 0) (hA : A = mo P c 0 * A1) (hB : B = mo P d 0 * B1) (h : isG P A1 B1 g) : isG P A B g := by
  obtain ⟨h1, h2, h3, h4, e, u, v, h5, h6⟩ := h
  refine ⟨h1, h2, by rw [hA]; exact dv_mull _ h3, by rw [hB]; exact dv_mull _ h4, c * d * e, u * mo P d 0, v * mo P c 0, fun z => ?_, ?_⟩
  · rcases Int.mul_eq_zero.mp z with y | y
    · rcases Int.mul_eq_zero.mp y with x | x
      · exact hc x
      · exact hd x
    · exact h5 y
  · have e1 : mo P (c * d * e) 0 = mo P c 0 * mo P d 0 * mo P e 0 := by rw [mo_mm P, mo_mm P]
    rw [e1, hA, hB]
    have : mo P c 0 * mo P d 0 * mo P e 0 * g = mo P c 0 * mo P d 0 * (u * A1 + v * B1) := by rw [← h6]; grind
    rw [this]; grind
theorem s_prim01 {S : Type} [Lean.Grind.CommRing S] {co : S → Nat → Int} (P : isPol co) {M : MI} (hM : ok M) {s : Nat} (hs : s < 60) {A : S} (rA : RZ co M s A) (nA : nu co A ≤ 11) (xA : ∀ i, nz (co A i) ≤ 9999) {n : Nat} (hn : 18446744073709551616 ≤ n) : ∃ c M' A1, f_X8_primitive n s M = some (c, M') ∧ ok M' ∧ chg [s] M M' ∧ RZ co M' s A1 ∧ (∃ d, d ≠ 0 ∧ A = mo P d 0 * A1) ∧ nu co A1 = nu co A ∧ (∀ i, nz (co A1 i) ≤ 9999) ∧ (nu co A ≠ 0 → c = sc co A) ∧ (nu co A = 0 → c = 0) := by
  by_cases h0 : nu co A = 0
  · exact ⟨0, M, A, s_primitive0 hM hs rA h0 hn, hM, chg_refl _ _, rA, ⟨1, by decide, by rw [mo_one P]; grind⟩, rfl, xA, fun h => absurd h0 h, fun _ => rfl⟩
  · obtain ⟨M1, A1, e1, hok1, hc1, r1, hA1, -, -, hN1, hs1⟩ := s_primitiveZ P hM hs rA (by omega) h0 (fun i => by have := nz_le.mp (xA i); omega) hn
    refine ⟨_, M1, A1, e1, hok1, hc1, r1, ⟨_, hs1, hA1⟩, hN1, fun i => ?_, fun _ => rfl, fun h => absurd h h0⟩
    have h1 := xA i
    have h2 : co A i = sc co A * co A1 i := (congrArg (fun x => co x i) hA1).trans (mo_0 P _ _ _)
    rw [h2, nz_mul] at h1
    have h3 : 1 * nz (co A1 i) ≤ nz (sc co A) * nz (co A1 i) := Int.mul_le_mul_of_nonneg_right (by unfold nz; omega) (nz_nn _)
    omega
theorem s_gcd8 {S : Type} [Lean.Grind.CommRing S] {co : S → Nat → Int} (P : isPol co) {M : MI} (hM : ok M) (hpb : ∀ k, k < 20 → M.2 37 k = PB k) (hbd : bd8 M) {g : Nat} (hg : M.2 36 2 = g) (hg80 : g ≤ 80) {a b : Int} (ha : inI a) (hb : inI b) {n : Nat} (hn : 18446744073709551616 ≤ n) : ∃ r M', f_X8_gcd n a b M = some (r, M') ∧ ok M' ∧ ko M M' ∧ ((¬ (0 ≤ a ∧ a < 80 ∧ 0 ≤ b ∧ b < 80) ∧ M'.2 36 3 = 1 ∧ sm8 M M') ∨ ((0 ≤ a ∧ a < 80 ∧ 0 ≤ b ∧ b < 80) ∧ g = 80 ∧ M'.2 36 3 = 2 ∧ sm8 M M') ∨ ((0 ≤ a ∧ a < 80 ∧ 0 ≤ b ∧ b < 80) ∧ g < 80 ∧ M'.2 36 3 = 0 ∧ ∃ d, ((po8 P M a.toNat = 0 ∧ po8 P M b.toNat = 0 ∧ d = 0) ∨ isG P (po8 P M a.toNat) (po8 P M b.toNat) d) ∧ ((sml co d ∧ r = g ∧ app8 M M' (co d)) ∨ (¬ sml co d ∧ r = -1 ∧ sm8 M M')))) := by
  obtain ⟨r0, M1, e1, hok1, hko1, hsm1, h1⟩ := s_refuses P hM hg hg80 ha hb hn
  rcases h1 with ⟨hbad, hr, ht⟩ | ⟨hgood, hfull, hr, ht⟩ | ⟨hgood, hfree, hr, ht, rA, rB⟩
  · refine ⟨0, M1, ?_, hok1, hko1, Or.inl ⟨hbad, ht, hsm1⟩⟩
    unfold f_X8_gcd
    rw [e1, bs]; dsimp only
    rw [hr, gI_s (by omega) (by omega), bs, if_neg (by omega)]
  · refine ⟨0, M1, ?_, hok1, hko1, Or.inr (Or.inl ⟨hgood, hfull, ht, hsm1⟩)⟩
    unfold f_X8_gcd
    rw [e1, bs]; dsimp only
    rw [hr, gI_s (by omega) (by omega), bs, if_neg (by omega)]
  · subst hr
    have nB := po8_N P M b.toNat
    have nA := po8_N P M a.toNat
    have xA := po8_X P hbd (p := a.toNat) (by omega)
    have xB := po8_X P hbd (p := b.toNat) (by omega)
    obtain ⟨A, hA⟩ : ∃ A, po8 P M a.toNat = A := ⟨_, rfl⟩
    obtain ⟨B, hB⟩ : ∃ B, po8 P M b.toNat = B := ⟨_, rfl⟩
    rw [hA] at nA xA rA ⊢
    rw [hB] at nB xB rB ⊢
    obtain ⟨cA, M2, A1, e2, hok2, hc2, rA2, ⟨dA, hdA, hAA⟩, nA1, xA1, -, -⟩ := s_prim01 P hok1 (s := 0) (by omega) rA nA xA hn
    have e2' : f_X8_primitive n 0 M1 = some (cA, M2) := e2
    have rB2 := RZ_chg rB hc2 (by simp) (by omega)
    obtain ⟨cB, M3, B1, e3, hok3, hc3, rB3, ⟨dB, hdB, hBB⟩, nB1, xB1, -, -⟩ := s_prim01 P hok2 (s := 1) (by omega) rB2 nB xB hn
    have e3' : f_X8_primitive n 1 M2 = some (cB, M3) := e3
    have rA3 := RZ_chg rA2 hc3 (by simp) (by omega)
    have hko3 : ko M M3 := ko_trans hko1 (ko_chm (F := []) (chm_of (chg_trans hc2 hc3)))
    have hsm3 : sm8 M M3 := sm8_trans hsm1 (sm8_chm (F := []) (chm_of (chg_trans hc2 hc3)) (by simp) (by simp))
    have ht3 : M3.2 36 3 = 0 := by rw [hc3.2.1 36 3 (by omega), hc2.2.1 36 3 (by omega)]; exact ht
    have d7 : odI M3 42 0 = some ((nu co A1 : Int) - 1) := by rw [odI_n (i := 0) 0 rfl rfl (by rw [k42.2]; omega)]; exact congrArg some rA3.1
    have d9 : odI M3 42 1 = some ((nu co B1 : Int) - 1) := by rw [odI_n (i := 1) 1 rfl rfl (by rw [k42.2]; omega)]; exact congrArg some rB3.1
    have hcw : nu co A1 ≠ 0 ∨ nu co B1 ≠ 0 → ∃ M4 d, f_X8_commonWhole n 0 1 11 M3 = some M4 ∧ ok M4 ∧ chm [3, 4, 5, 6, 7, 11] [] M3 M4 ∧ RZ co M4 11 d ∧ isG P A1 B1 d ∧ nu co d ≤ 11 := fun hne => by
      by_cases z1 : nu co A1 = 0
      · obtain ⟨M4, d, e, h1, h2, h3, h4, h5⟩ := s_commonWhole0 P hok3 (a := 0) (b := 1) (c := 11) (by omega) (by omega) (by omega) rA3 rB3 (by omega) (by omega) (Or.inl ⟨z1, by omega⟩) (fun i => by have := xA1 i; omega) (fun i => by have := xB1 i; omega) hn
        exact ⟨M4, d, e, h1, chm_mono (chm_of h2) (fun x hx => by simp at hx ⊢; omega) (fun x hx => hx), h3, h4, h5⟩
      · by_cases z2 : nu co B1 = 0
        · obtain ⟨M4, d, e, h1, h2, h3, h4, h5⟩ := s_commonWhole0 P hok3 (a := 0) (b := 1) (c := 11) (by omega) (by omega) (by omega) rA3 rB3 (by omega) (by omega) (Or.inr ⟨z1, z2⟩) (fun i => by have := xA1 i; omega) (fun i => by have := xB1 i; omega) hn
          exact ⟨M4, d, e, h1, chm_mono (chm_of h2) (fun x hx => by simp at hx ⊢; omega) (fun x hx => hx), h3, h4, h5⟩
        · obtain ⟨M4, d, e, h1, h2, h3, h4, h5⟩ := s_commonWhole P hok3 (a := 0) (b := 1) (c := 11) (by omega) (by omega) (by omega) (by omega) (by omega) (by omega) (by omega) (by omega) (by omega) (by omega) (by omega) (by omega) (by omega) (fun k hk => by rw [hko3.2 37 k (by omega)]; exact hpb k hk) rA3 rB3 (by omega) (by omega) z1 z2 (fun i => by have := xA1 i; omega) (fun i => by have := xB1 i; omega) hn
          exact ⟨M4, d, e, h1, h2, h3, h4, h5⟩
    have hmid : ∃ M12 d, (Option.bind (gI ((nu co A1 : Int) - 1) 0) fun _ => if 0 ≤ (nu co A1 : Int) - 1 then Option.bind (f_X8_commonWhole n (0) (1) (11) M3) fun v8 => some v8 else Option.bind (odI M3 42 (1)) fun v9 => Option.bind (gI v9 0) fun _ => if 0 ≤ v9 then Option.bind (f_X8_commonWhole n (0) (1) (11) M3) fun v10 => some v10 else Option.bind (f_X8_copy n (0) (11) M3) fun v11 => some v11) = some M12 ∧ ok M12 ∧ chm [3, 4, 5, 6, 7, 11] [] M3 M12 ∧ RZ co M12 11 d ∧ nu co d ≤ 11 ∧ (∀ i, nz (co d i) ≤ 979902) ∧ ((A = 0 ∧ B = 0 ∧ d = 0) ∨ isG P A B d) := by
      by_cases z : nu co A1 ≠ 0 ∨ nu co B1 ≠ 0
      · obtain ⟨M4, d, e, h1, h2, h3, h4, h5⟩ := hcw z
        refine ⟨M4, d, ?_, h1, h2, h3, h5, fun i => ?_, Or.inr (isG_sc P hdA hdB hAA hBB h4)⟩
        · by_cases y : nu co A1 = 0
          · rw [gI_s (by omega) (by omega), bs, if_neg (by omega), d9, bs, gI_s (by omega) (by omega), bs, if_pos (by omega), e, bs]
          · rw [gI_s (by omega) (by omega), bs, if_pos (by omega), e, bs]
        · by_cases y : nu co A1 = 0
          · exact (z_bd P (F := B1) (by omega) (by omega) xB1 h4.2.2.2.1).1 i
          · exact (z_bd P (F := A1) y (by omega) xA1 h4.2.2.1).1 i
      · obtain ⟨M4, e4, hok4, hc4, r4⟩ := s_copyZ hok3 (a := 0) (b := 11) (by omega) (by omega) rA3 (by omega) hn
        have e4' : f_X8_copy n 0 11 M3 = some M4 := e4
        have zA : nu co A1 = 0 := Classical.byContradiction fun h => z (Or.inl h)
        have zB : nu co B1 = 0 := Classical.byContradiction fun h => z (Or.inr h)
        refine ⟨M4, A1, ?_, hok4, chm_mono (chm_of hc4) (fun x hx => by simp at hx ⊢; omega) (fun x hx => hx), r4, by omega, fun i => by have := xA1 i; omega, Or.inl ⟨(nu_zero P).mp (by omega), (nu_zero P).mp (by omega), (nu_zero P).mp zA⟩⟩
        rw [gI_s (by omega) (by omega), bs, if_neg (by omega), d9, bs, gI_s (by omega) (by omega), bs, if_neg (by omega), e4', bs]
    obtain ⟨M12, d, e12, hok12, hc12, r12, nd, xd, hd⟩ := hmid
    have hko12 : ko M M12 := ko_trans hko3 (ko_chm hc12)
    have hsm12 : sm8 M M12 := sm8_trans hsm3 (sm8_chm hc12 (by simp) (by simp))
    have ht12 : M12.2 36 3 = 0 := by rw [hc12.2.1 36 3 (by omega) (by simp)]; exact ht3
    obtain ⟨g1, g2⟩ := s_great P hok12 (s := 11) (by omega) r12 (by omega) (fun i => by have := nz_le.mp (xd i); omega) hn
    by_cases hs : sml co d
    · have g1' : f_X8_great n 11 M12 = some 0 := g1 hs
      obtain ⟨M13, e13, hok13, hko13, ha13, ht13⟩ := s_keepR hok12 (s := 11) (g := g) (by omega) (by rw [hsm12.2.2.2.1]; exact hg) hfree (v := co d) (fun k _ => RZ_v P r12 k) (fun k _ => by have := nz_le.mp (hs.2 k); omega) hn
      have e13' : f_X8_store n 11 M12 = some ((g : Int), M13) := e13
      refine ⟨g, M13, ?_, hok13, ko_trans hko12 hko13, Or.inr (Or.inr ⟨hgood, hfree, by rw [ht13]; exact ht12, d, hd, Or.inl ⟨hs, rfl, app8_sm hsm12 ha13⟩⟩)⟩
      unfold f_X8_gcd
      rw [e1, bs]; dsimp only
      rw [gI_s (by omega) (by omega), bs, if_pos rfl, e2', bs]; dsimp only
      rw [e3', bs]; dsimp only
      rw [d7, bs, e12, bs, g1', bs, gI_s (by omega) (by omega), bs, if_pos rfl, e13', bs, bs]
    · have g2' : f_X8_great n 11 M12 = some 1 := g2 hs
      refine ⟨-1, M12, ?_, hok12, hko12, Or.inr (Or.inr ⟨hgood, hfree, ht12, d, hd, Or.inr ⟨hs, rfl, hsm12⟩⟩)⟩
      unfold f_X8_gcd
      rw [e1, bs]; dsimp only
      rw [gI_s (by omega) (by omega), bs, if_pos rfl, e2', bs]; dsimp only
      rw [e3', bs]; dsimp only
      rw [d7, bs, e12, bs, g2', bs, gI_s (by omega) (by omega), bs, if_neg (by omega), bs]
end MRop2
