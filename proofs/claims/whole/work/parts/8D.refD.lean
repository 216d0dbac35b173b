/-! raise by the modulus -/
section MRefD
theorem s_raise {T R : Type} [Lean.Grind.CommRing T] [Lean.Grind.CommRing R] {ct : T → Nat → R} (K : isPol ct) {p : Nat} (hp : isZp R p) {φ : Int → R} (hφ : isRed φ p) {M : MI} (hM : ok M) {a c d : Nat} (ha : a < 60) (hc : c < 60) (hd : d < 60) (hc8 : c ≠ 8) (hc3 : c ≠ 3) (hc9 : c ≠ 9) (hd8 : d ≠ 8) (hd3 : d ≠ 3) (hd9 : d ≠ 9) (hdc : d ≠ c) (hm : M.1 36 9 = p) (hm2 : p ≤ 1000000000000) {f h : T} (hf : RP ct φ p M a f) (hh : RP ct φ p M c h) (hNf : nu ct f ≤ 24) (hNh : nu ct h ≤ 12) (hh0 : nu ct h ≠ 0) (hh1 : ct h (nu ct h - 1) = 1) {e : Nat} (he : e < 4611686018427387904) {n : Nat} (hn : 18446744073709551616 ≤ n) : ∃ M' r, f_X8_raise n a e c d M = some M' ∧ ok M' ∧ chg [8, 3, 9, d] M M' ∧ dv h (f ^ e - r) ∧ nu ct r < nu ct h ∧ RP ct φ p M' d r := by
  have hp2 := hp.1.1
  have hF := hp.2.2.1
  obtain ⟨M1, a1, a2, a3, a4⟩ := s_copyP hM ha (b := 9) (by omega) hf hNf hn
  have hm1 : M1.1 36 9 = p := (a3.1 36 9 (by omega)).trans hm
  have hh1' : RP ct φ p M1 c h := RP_chg hh a3 (by simp; exact hc9) (by omega)
  obtain ⟨M2, q0, X0, b1, b2, b3, b4, b5, b6, _⟩ := s_rest K hp hφ a2 (a := 9) (by omega) hc (fun z => hc9 z.symm) (by omega) hc3 hm1 hm2 a4 hh1' hNf (by omega) hh0 hh1 hn
  have hch2 : chg [9, 3] M M2 := chg_mono (chg_trans a3 b3) (fun x hx => by simp at hx ⊢; omega)
  have hh2 : RP ct φ p M2 c h := RP_chg hh1' b3 (by simp; exact ⟨hc9, hc3⟩) (by omega)
  have hdc2 : M2.2 42 c = (nu ct h : Int) - 1 := hh2.1
  -- the first answer
  obtain ⟨y0, hy0⟩ : ∃ y : Int, y = (if (nu ct h : Int) - 1 = 0 then 0 else 1) := ⟨_, rfl⟩
  have hcst := s_constant (M := M2) hd (x := y0) (by rw [hy0]; split <;> omega)
  obtain ⟨M3, hM3⟩ : ∃ M3, M3 = oI (oJ M2 41 (24 * d) y0) 42 d (if y0 = 0 then -1 else 0) := ⟨_, rfl⟩
  rw [← hM3] at hcst
  have hok3 : ok M3 := by rw [hM3]; exact ok_oI (ok_oJ b2 (by rw [hy0]; split <;> omega)) (by split <;> omega)
  have hch3 : chg [d] M2 M3 := by
    rw [hM3]
    refine chg_mono (chg_trans (chg_win (s := d) (M' := oJ M2 41 (24 * d) y0) rfl (fun k i hki => by rw [oJ_1, if_neg (by omega)])) (chg_oI _)) (fun x hx => by simpa using hx)
  have hY0 : ∃ Y0 : T, RP ct φ p M3 d Y0 ∧ nu ct Y0 < nu ct h ∧ dv h (1 - Y0) := by
    by_cases z : nu ct h = 1
    · rw [if_pos (by omega)] at hy0
      refine ⟨0, ⟨?_, fun j hj => ?_⟩, ?_, ?_⟩
      · rw [(nu_zero K).mpr rfl, hM3]
        show (oI (oJ M2 41 (24 * d) y0) 42 d (if y0 = 0 then -1 else 0)).2 42 d = _
        rw [oI_2, if_pos ⟨rfl, rfl⟩, if_pos hy0]; rfl
      · rw [(nu_zero K).mpr rfl] at hj; omega
      · rw [(nu_zero K).mpr rfl]; omega
      · obtain ⟨u, hu⟩ := eu_unit (pol_EU K hF) z
        exact ⟨u, by rw [hu]; grind⟩
    · rw [if_neg (by omega)] at hy0
      have hN1 : nu ct (1 : T) = 1 := by rw [← mo_one K]; exact mo_N K 0 hF.1
      refine ⟨1, ⟨?_, fun j hj => ?_⟩, by omega, ⟨0, by grind⟩⟩
      · rw [hN1, hM3]
        show (oI (oJ M2 41 (24 * d) y0) 42 d (if y0 = 0 then -1 else 0)).2 42 d = _
        rw [oI_2, if_pos ⟨rfl, rfl⟩, if_neg (by omega)]; rfl
      · rw [hN1] at hj
        have ew : wv M3 d j = 1 := by
          rw [hM3]
          show (oJ M2 41 (24 * d) y0).1 41 (24 * d + j) = 1
          rw [oJ_1, if_pos ⟨rfl, by omega⟩, hy0]
        rw [ew, p_one K, if_pos (by omega)]
        exact ⟨by omega, by omega, hφ.2.2.2⟩
  obtain ⟨Y0, y1, y2, y3⟩ := hY0
  have hX3 : RP ct φ p M3 9 X0 := RP_chg b6 hch3 (by simp; exact fun z => hd9 z.symm) (by omega)
  have hh3 : RP ct φ p M3 c h := RP_chg hh2 hch3 (by simp; exact fun z => hdc z.symm) (by omega)
  have hch03 : chg [8, 3, 9, d] M M3 := chg_mono (chg_trans hch2 hch3) (fun x hx => by simp at hx ⊢; omega)
  have hdX : dv h (f - X0) := ⟨q0, by rw [b4]; grind⟩
  obtain ⟨M', hL, l1, l2, Y, l3, l4, l5⟩ := lp_do (step := l_X8_raise_39 n c d) (fun st => ok st.1 ∧ chg [8, 3, 9, d] M st.1 ∧ ∃ (k : Nat) (X Y : T), st.2 = k ∧ k < 4611686018427387904 ∧ RP ct φ p st.1 9 X ∧ RP ct φ p st.1 d Y ∧ RP ct φ p st.1 c h ∧ nu ct X < nu ct h ∧ nu ct Y < nu ct h ∧ dv h (f ^ e - Y * X ^ k)) (fun st => st.2.toNat) (fun M' => ok M' ∧ chg [8, 3, 9, d] M M' ∧ ∃ Y, RP ct φ p M' d Y ∧ nu ct Y < nu ct h ∧ dv h (f ^ e - Y)) (fun st hst => by
    obtain ⟨M6, v⟩ := st
    obtain ⟨s1, s2, k, X, Y, hv, hk, s3, s4, s5, s6, s7, s8⟩ := hst
    dsimp only at s1 s2 hv s3 s4 s5
    subst hv
    unfold l_X8_raise_39
    dsimp only
    rw [gJ_s (by omega) (by omega), bs]
    by_cases h0 : (k : Int) ≤ 0
    · rw [if_pos h0]
      rw [show k = 0 by omega, pw_zero] at s8
      exact Or.inl ⟨_, rfl, s1, s2, Y, s4, s7, by rw [show f ^ e - Y = f ^ e - Y * 1 by grind]; exact s8⟩
    · rw [if_neg h0, oand1 (by omega) (by omega), oshr1 (by omega)]
      have hm6 : M6.1 36 9 = p := (s2.1 36 9 (by omega)).trans hm
      have hz2 : ((k : Int) / 2) = ((k / 2 : Nat) : Int) := by omega
      -- the odd step
      have hodd : ∃ M9 Y', (Option.bind (gJ ((k : Int) % 2) 1) fun _ => if (k : Int) % 2 = 1 then Option.bind (f_X8_multiply n d 9 c d M6) fun v8 => some v8 else some M6) = some M9 ∧ ok M9 ∧ chg [8, 3, d] M6 M9 ∧ RP ct φ p M9 d Y' ∧ nu ct Y' < nu ct h ∧ dv h (f ^ e - Y' * (X * X) ^ (k / 2)) := by
        have hsq : ∀ j : Nat, (X * X) ^ j = X ^ (2 * j) := fun j => by rw [pw_mul, show (2 : Nat) = 1 + 1 from rfl, pw_succ, pw1]
        rw [gJ_s (by omega) (by omega), bs]
        by_cases ho : (k : Int) % 2 = 1
        · obtain ⟨M9, q, r, r1, r2, r3, r4, r5, r6⟩ := s_multiply K hp hφ s1 hd (b := 9) (by omega) hc hd hd8 (by omega) hc8 hc3 hm6 hm2 s4 s3 s5 (by omega) (by omega) (by omega) (by omega) hh0 hh1 hn
          have e9 : f_X8_multiply n d 9 c d M6 = some M9 := r1
          rw [if_pos ho, e9, bs]
          refine ⟨M9, r, rfl, r2, r3, r6, r5, ?_⟩
          rw [hsq]
          obtain ⟨w, hw⟩ := s8
          have e10 : X ^ k = X ^ (2 * (k / 2)) * X := by rw [← pw_succ, show 2 * (k / 2) + 1 = k by omega]
          rw [e10] at hw
          exact ⟨w + q * X ^ (2 * (k / 2)), by
            generalize X ^ (2 * (k / 2)) = Z at *
            grind⟩
        · rw [if_neg ho]
          refine ⟨M6, Y, rfl, s1, chg_refl _ _, s4, s7, ?_⟩
          rw [hsq, show 2 * (k / 2) = k by omega]; exact s8
      obtain ⟨M9, Y', o1, o2, o3, o4, o5, o6⟩ := hodd
      rw [o1, bs]
      have hX9 : RP ct φ p M9 9 X := RP_chg s3 o3 (by simp; omega) (by omega)
      have hh9 : RP ct φ p M9 c h := RP_chg s5 o3 (by simp; omega) (by omega)
      have hm9 : M9.1 36 9 = p := (o3.1 36 9 (by omega)).trans hm6
      have hch9 : chg [8, 3, 9, d] M M9 := chg_mono (chg_trans s2 o3) (fun x hx => by simp at hx ⊢; omega)
      by_cases h1 : (k : Int) ≤ 1
      · rw [gJ_s (by omega) (by omega), bs, if_pos h1, bs]
        refine Or.inr ⟨_, rfl, ⟨o2, hch9, k / 2, X, Y', hz2, by omega, hX9, o4, hh9, s6, o5, ?_⟩, by dsimp only; omega⟩
        rw [show k / 2 = 0 by omega, pw_zero] at o6 ⊢
        exact o6
      · obtain ⟨M11, q, r, r1, r2, r3, r4, r5, r6⟩ := s_multiply K hp hφ o2 (a := 9) (b := 9) (d := 9) (by omega) (by omega) hc (by omega) (by omega) (by omega) hc8 hc3 hm9 hm2 hX9 hX9 hh9 (by omega) (by omega) (by omega) (by omega) hh0 hh1 hn
        have e9 : f_X8_multiply n 9 9 c 9 M9 = some M11 := r1
        rw [gJ_s (by omega) (by omega), bs, if_neg h1, e9, bs, bs]
        refine Or.inr ⟨_, rfl, ⟨r2, chg_mono (chg_trans hch9 r3) (fun x hx => by simp at hx ⊢; omega), k / 2, r, Y', hz2, by omega, r6, RP_chg o4 r3 (by simp; omega) (by omega), RP_chg hh9 r3 (by simp; omega) (by omega), r5, o5, ?_⟩, by dsimp only; omega⟩
        have hcg := cg_pw (m := h) (a := X * X) (b := r) ⟨q, by rw [r4]; grind⟩ (k / 2)
        obtain ⟨w, hw⟩ := o6
        obtain ⟨w2, hw2⟩ := hcg
        exact ⟨w + Y' * w2, by grind⟩) n (M3, (e : Int)) ⟨hok3, hch03, e, X0, Y0, rfl, he, hX3, y1, hh3, b5, y2, by
      obtain ⟨w, hw⟩ := cg_pw hdX e
      obtain ⟨w2, hw2⟩ := y3
      exact ⟨w + w2 * X0 ^ e, by grind⟩⟩ (by dsimp only; omega)
  refine ⟨M', Y, ?_, l1, l2, l5, l4, l3⟩
  unfold f_X8_raise
  have e1 : f_X8_copy n a 9 M = some M1 := a1
  have e2 : f_X8_rest n 9 c M1 = some M2 := b1
  rw [e1, bs, e2, bs, odI_n c rfl rfl (by rw [k42.2]; exact hc), bs, hdc2, gI_s (by omega) (by omega), bs]
  have e3 : (if (nu ct h : Int) - 1 = 0 then some (0 : Int) else some 1) = some y0 := by rw [hy0]; split <;> rfl
  rw [e3, bs, hcst, bs, hL, bs]
end MRefD
