/-! divides, as a whole -/
section MRefK
theorem s_divides {S : Type} [Lean.Grind.CommRing S] {co : S → Nat → Int} (P : isPol co) {M : MI} (hM : ok M) {g a : Nat} (hg : g < 60) (ha : a < 60) (hg3 : g ≠ 3) (hg4 : g ≠ 4) (ha3 : a ≠ 3) (ha4 : a ≠ 4) {b : Int} (hb0 : 0 ≤ b) (hb : b ≤ 400000000) {G A : S} (hG : RZ co M g G) (hA : RZ co M a A) (hNG : nu co G ≤ 24) (hNA : nu co A ≤ 24) (hA0 : nu co A ≠ 0) (hBG : ∀ i, -9223372036854775807 ≤ co G i) (hBA : ∀ i, nz (co A i) ≤ 1000000000000000000) {n : Nat} (hn : 18446744073709551616 ≤ n) :
    ∃ M', ok M' ∧ chg [3, 4] M M' ∧ ((f_X8_divides n g a b M = some (1, M') ∧ ∃ q, A = G * q ∧ RZ co M' 3 q ∧ (∀ i, nz (co q i) ≤ b) ∧ ∀ i, nz (co G i) ≤ 20000000) ∨ (f_X8_divides n g a b M = some (0, M') ∧ ¬ ((∀ i, nz (co G i) ≤ 20000000) ∧ ∃ q, A = G * q ∧ ∀ i, nz (co q i) ≤ b))) := by
  have hdg : odI M 42 g = some ((nu co G : Int) - 1) := by rw [odI_n g rfl rfl (by rw [k42.2]; exact hg)]; exact congrArg some hG.1
  have hAne : A ≠ 0 := fun h => hA0 ((nu_zero P).mpr h)
  by_cases hG0 : nu co G = 0
  · refine ⟨M, hM, chg_refl _ _, Or.inr ⟨?_, ?_⟩⟩
    · unfold f_X8_divides
      rw [hdg, bs, gI_s (by omega) (by omega), bs, if_neg (by omega)]
    · rintro ⟨_, q, hq, _⟩
      exact hAne (by rw [hq, (nu_zero P).mp hG0]; grind)
  · obtain ⟨r1, h14, hr1⟩ := s_div14 P hM hg hG hNG hBG hn
    rcases hr1 with ⟨er, hB2⟩ | ⟨er, hB2⟩
    · obtain ⟨M1, hc, hok1, hch1, h4⟩ := s_copyZ hM ha (b := 4) (by omega) hA hNA hn
      have hG1 := RZ_chg hG hch1 (by simpa using hg4) hNG
      have hA1 := RZ_chg hA hch1 (by simpa using ha4) hNA
      have d1 : odI M1 42 a = some ((nu co A : Int) - 1) := by rw [odI_n a rfl rfl (by rw [k42.2]; exact ha)]; exact congrArg some hA1.1
      have d2 : odI M1 42 g = some ((nu co G : Int) - 1) := by rw [odI_n g rfl rfl (by rw [k42.2]; exact hg)]; exact congrArg some hG1.1
      have d3 : odJ M1 41 (24 * (g : Int) + ((nu co G : Int) - 1)) = some (co G (nu co G - 1)) := by rw [odJ_n (24 * g + (nu co G - 1)) rfl (by omega) (by rw [k41.2]; omega)]; exact congrArg some (hG1.2 _ (by omega))
      obtain ⟨o, h98, M2, hok2, hch2, ho⟩ := s_div98 P hok1 hg ha hg3 hg4 ha3 ha4 hb0 hb hG1 hA1 hNG hNA hG0 hB2 hBA (fun j hj => h4.2 j hj) hn
      have hch : chg [3, 4] M M2 := chg_mono (chg_trans hch1 hch2) (fun x hx => by simp at hx ⊢; omega)
      rcases ho with ⟨eo, hno⟩ | ⟨eo, q, r, hAq, hq, hr1, hr2, h41, h31, hq2⟩
      · exact ⟨M2, hok2, hch, Or.inr ⟨by
          unfold f_X8_divides
          rw [hdg, bs, gI_s (by omega) (by omega), bs, if_pos (by omega), h14, bs, er]
          dsimp only
          rw [show ((4 : Int)) = ((4 : Nat) : Int) from rfl, hc, bs, d1, bs, d2, bs, bs, d3, bs, show (nu co A : Int) - 1 - ((nu co G : Int) - 1) = nu co A - nu co G by omega, h98, bs, eo], fun h => hno h.2⟩⟩
      · have hA2 := RZ_chg hA1 hch2 (by simp; omega) hNA
        obtain ⟨o2, h226, ho2⟩ := s_div226 hok2 ha hA2.1 hNA h41 hn
        rcases ho2 with ⟨eo2, hz⟩ | ⟨eo2, hz⟩
        · have hr0 : r = 0 := p_ext P (fun i => by
            rw [p_zero P]
            rcases Nat.lt_or_ge i (nu co A) with w | w
            · exact hz i w
            · exact hr2 i w)
          have hAG : A = G * q := by rw [hAq, hr0]; grind
          have hq0 : q ≠ 0 := fun h => hAne (by rw [hAG, h]; grind)
          have hNm := nu_mul P int_D (fun h => hG0 ((nu_zero P).mpr h)) hq0
          rw [← hAG] at hNm
          have hnq : nu co q ≠ 0 := fun h => hq0 ((nu_zero P).mp h)
          obtain ⟨t1, t2, t3⟩ := s_trimZ P hok2 (s := 3) (by omega) (t := (nu co A : Int) - nu co G) (by omega) (by omega) (f := q) (fun j hj => h31 j (by omega)) (fun j hj => hq2 j (by omega)) hn
          exact ⟨_, t3, chg_mono (chg_trans hch (chg_oI _)) (fun x hx => by simp at hx ⊢; omega), Or.inl ⟨by
            unfold f_X8_divides
            rw [hdg, bs, gI_s (by omega) (by omega), bs, if_pos (by omega), h14, bs, er]
            dsimp only
            rw [show ((4 : Int)) = ((4 : Nat) : Int) from rfl, hc, bs, d1, bs, d2, bs, bs, d3, bs, show (nu co A : Int) - 1 - ((nu co G : Int) - 1) = nu co A - nu co G by omega, h98, bs, eo]
            dsimp only
            rw [h226, bs, eo2]
            dsimp only
            rw [show ((3 : Int)) = ((3 : Nat) : Int) from rfl, t1, bs], q, hAG, t2, hq, hB2⟩⟩
        · refine ⟨M2, hok2, hch, Or.inr ⟨by
            unfold f_X8_divides
            rw [hdg, bs, gI_s (by omega) (by omega), bs, if_pos (by omega), h14, bs, er]
            dsimp only
            rw [show ((4 : Int)) = ((4 : Nat) : Int) from rfl, hc, bs, d1, bs, d2, bs, bs, d3, bs, show (nu co A : Int) - 1 - ((nu co G : Int) - 1) = nu co A - nu co G by omega, h98, bs, eo]
            dsimp only
            rw [h226, bs, eo2], ?_⟩⟩
          rintro ⟨_, h, he, hh⟩
          apply hz
          have hrr : r = G * (h - q) := by
            have : G * h = G * q + r := by rw [← he]; exact hAq
            grind
          have hlow : ∀ j, 0 + (nu co G - 1) ≤ j → co r j = 0 := fun j hj => by
            rcases Nat.lt_or_ge j (nu co A) with w | w
            · exact hr1 j (by omega) w
            · exact hr2 j w
          obtain ⟨z1, _⟩ := zd_top P (t := 0) hG0 hlow hrr
          have : h - q = 0 := p_ext P (fun i => by rw [z1 i (by omega), p_zero P])
          intro i _
          rw [hrr, this, show G * (0 : S) = 0 by grind, p_zero P]
    · refine ⟨M, hM, chg_refl _ _, Or.inr ⟨?_, fun h => hB2 h.1⟩⟩
      unfold f_X8_divides
      rw [hdg, bs, gI_s (by omega) (by omega), bs, if_pos (by omega), h14, bs, er]
theorem s_divides0 {S : Type} [Lean.Grind.CommRing S] {co : S → Nat → Int} (P : isPol co) {M : MI} (hM : ok M) {g a : Nat} (hg : g < 60) (ha : a < 60) (hg3 : g ≠ 3) (hg4 : g ≠ 4) (ha4 : a ≠ 4) {b : Int} {G A : S} (hG : RZ co M g G) (hA : RZ co M a A) (hNG : nu co G ≤ 24) (hA0 : nu co A = 0) (hG0 : nu co G ≠ 0) (hBG : ∀ i, nz (co G i) ≤ 20000000) {n : Nat} (hn : 18446744073709551616 ≤ n) :
    ∃ M', ok M' ∧ chg [3, 4] M M' ∧ f_X8_divides n g a b M = some (1, M') ∧ dg M' 3 < 0 := by
  have hdg : odI M 42 g = some ((nu co G : Int) - 1) := by rw [odI_n g rfl rfl (by rw [k42.2]; exact hg)]; exact congrArg some hG.1
  obtain ⟨r1, h14, hr1⟩ := s_div14 P hM hg hG hNG (fun i => by have := nz_le.mp (hBG i); omega) hn
  rcases hr1 with ⟨er, hB2⟩ | ⟨er, hB2⟩
  · obtain ⟨M1, hc, hok1, hch1, h4⟩ := s_copyZ hM ha (b := 4) (by omega) hA (by omega) hn
    have hG1 := RZ_chg hG hch1 (by simpa using hg4) hNG
    have hA1 := RZ_chg hA hch1 (by simpa using ha4) (by omega)
    have d1 : odI M1 42 a = some ((nu co A : Int) - 1) := by rw [odI_n a rfl rfl (by rw [k42.2]; exact ha)]; exact congrArg some hA1.1
    have d2 : odI M1 42 g = some ((nu co G : Int) - 1) := by rw [odI_n g rfl rfl (by rw [k42.2]; exact hg)]; exact congrArg some hG1.1
    have d3 : odJ M1 41 (24 * (g : Int) + ((nu co G : Int) - 1)) = some (co G (nu co G - 1)) := by rw [odJ_n (24 * g + (nu co G - 1)) rfl (by omega) (by rw [k41.2]; omega)]; exact congrArg some (hG1.2 _ (by omega))
    have h98 : lpF (l_X8_divides_98 n g b (co G (nu co G - 1))) n (M1, (nu co A : Int) - nu co G) = some (.inr M1) := lp_for (fun _ => (M1, (nu co A : Int) - nu co G)) _ 0 n (fun k hk => absurd hk (by omega)) (by
      unfold l_X8_divides_98
      dsimp only
      rw [gI_s (by omega) (by omega), bs, if_pos (by omega)]) (by omega)
    have h226 : lpF (l_X8_divides_226 a M1) n 0 = some (.inr ()) := lp_for (fun _ => (0 : Int)) _ 0 n (fun k hk => absurd hk (by omega)) (by
      unfold l_X8_divides_226
      rw [d1, bs, gI_s (by omega) (by omega), bs, if_pos (by omega)]) (by omega)
    obtain ⟨d, t1, t2, t3, t4, t5⟩ := s_trim hok1 (s := 3) (by omega) (t := (nu co A : Int) - nu co G) (by omega) (by omega) (n := n) (by omega)
    refine ⟨oI M1 42 3 d, ok_oI hok1 (by omega), chg_mono (chg_trans hch1 (chg_oI _)) (fun x hx => by simp at hx ⊢; omega), ?_, by show (oI M1 42 3 d).2 42 3 < 0; rw [oI_2, if_pos ⟨rfl, rfl⟩]; omega⟩
    unfold f_X8_divides
    rw [hdg, bs, gI_s (by omega) (by omega), bs, if_pos (by omega), h14, bs, er]
    dsimp only
    rw [show ((4 : Int)) = ((4 : Nat) : Int) from rfl, hc, bs, d1, bs, d2, bs, bs, d3, bs, show (nu co A : Int) - 1 - ((nu co G : Int) - 1) = nu co A - nu co G by omega, h98, bs]
    dsimp only
    rw [h226, bs]
    dsimp only
    rw [show ((3 : Int)) = ((3 : Nat) : Int) from rfl, t1, bs]
  · exact absurd hBG hB2
end MRefK
