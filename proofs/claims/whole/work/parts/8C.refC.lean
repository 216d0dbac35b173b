/-! multiply, the whole of it -/
section MRefC
theorem s_multiply {T R : Type} [Lean.Grind.CommRing T] [Lean.Grind.CommRing R] {ct : T → Nat → R} (K : isPol ct) {p : Nat} (hp : isZp R p) {φ : Int → R} (hφ : isRed φ p) {M : MI} (hM : ok M) {a b c d : Nat} (ha : a < 60) (hb : b < 60) (hc : c < 60) (hd : d < 60) (ha8 : a ≠ 8) (hb8 : b ≠ 8) (hc8 : c ≠ 8) (hc3 : c ≠ 3) (hm : M.1 36 9 = p) (hm2 : p ≤ 1000000000000) {f g h : T} (hf : RP ct φ p M a f) (hg : RP ct φ p M b g) (hh : RP ct φ p M c h) (hN : nu ct f + nu ct g ≤ 25) (hNf : nu ct f ≤ 24) (hNg : nu ct g ≤ 24) (hNh : nu ct h ≤ 24) (hh0 : nu ct h ≠ 0) (hh1 : ct h (nu ct h - 1) = 1) {n : Nat} (hn : 18446744073709551616 ≤ n) : ∃ M' q r, f_X8_multiply n a b c d M = some M' ∧ ok M' ∧ chg [8, 3, d] M M' ∧ f * g = q * h + r ∧ nu ct r < nu ct h ∧ RP ct φ p M' d r := by
  have hp2 := hp.1.1
  have hda : M.2 42 a = (nu ct f : Int) - 1 := hf.1
  have hdb : M.2 42 b = (nu ct g : Int) - 1 := hg.1
  obtain ⟨t, ht⟩ : ∃ t : Int, t = (if nu ct f = 0 ∨ nu ct g = 0 then -1 else (nu ct f : Int) + nu ct g - 2) := ⟨_, rfl⟩
  have ht1 : -1 ≤ t ∧ t ≤ 23 := by rw [ht]; split <;> omega
  have hv5 : (Option.bind (gI ((nu ct f : Int) - 1) 0) fun _ => if (nu ct f : Int) - 1 < 0 then some (-1) else Option.bind (odI M 42 b) fun v2 => Option.bind (gI v2 0) fun _ => if 0 ≤ v2 then Option.bind (odI M 42 a) fun v3 => Option.bind (odI M 42 b) fun v4 => some (v3 + v4) else some (-1)) = some t := by
    rw [gI_s (by omega) (by omega), bs, odI_n b rfl rfl (by rw [k42.2]; exact hb), bs, hdb, gI_s (by omega) (by omega), bs, odI_n a rfl rfl (by rw [k42.2]; exact ha), bs, bs, hda, ht]
    by_cases z1 : nu ct f = 0
    · rw [if_pos (by omega), if_pos (Or.inl z1)]
    · rw [if_neg (by omega)]
      by_cases z2 : nu ct g = 0
      · rw [if_neg (by omega), if_pos (Or.inr z2)]
      · rw [if_pos (by omega), if_neg (by omega)]
        congr 1; omega
  have hZ := s_mulZ (M := M) ht1.2 ht1.1 hn
  have hch0 : chg [8] M (zrM M 8 (t + 1).toNat) := chg_win rfl (fun k i h => by unfold zrM; dsimp only; rw [if_neg (by omega)])
  have hok0 : ok (zrM M 8 (t + 1).toNat) := ⟨fun k i => by
    unfold zrM; dsimp only
    split
    · omega
    · exact hM.1 k i, hM.2⟩
  have key : ∃ M27, lpF (l_X8_multiply_68 n a b t) n (zrM M 8 (t + 1).toNat, 0) = some M27 ∧ ok M27 ∧ chg [8] M M27 ∧ M27.2 = M.2 ∧ (∀ j : Nat, (j : Int) ≤ t → 0 ≤ wv M27 8 j ∧ wv M27 8 j < p ∧ φ (wv M27 8 j) = ct (f * g) j) ∧ (∀ j : Nat, t < j → ct (f * g) j = 0) := by
    by_cases z : nu ct f = 0 ∨ nu ct g = 0
    · rw [if_pos z] at ht
      have hfg : f * g = 0 := by
        rcases z with z | z
        · rw [(nu_zero K).mp z]; grind
        · rw [(nu_zero K).mp z]; grind
      refine ⟨zrM M 8 (t + 1).toNat, ?_, hok0, hch0, rfl, fun j hj => by omega, fun j _ => by rw [hfg]; exact p_zero K j⟩
      obtain ⟨N, rfl⟩ : ∃ N, n = N + 1 := ⟨n - 1, by omega⟩
      have hstep : l_X8_multiply_68 (N + 1) a b t (zrM M 8 (t + 1).toNat, 0) = some (.inl (zrM M 8 (t + 1).toNat)) := by
        unfold l_X8_multiply_68
        dsimp only
        have e : (zrM M 8 (t + 1).toNat).2 42 a = (nu ct f : Int) - 1 := hda
        rw [odI_n a rfl rfl (by rw [k42.2]; exact ha), bs, e, gI_s (by omega) (by omega), bs]
        by_cases z1 : (nu ct f : Int) - 1 < 0
        · rw [if_pos z1]
        · rw [if_neg z1, gI_s (by omega) (by omega), bs, if_pos (by omega)]
      simp only [lpF, hstep]
    · rw [if_neg z] at ht
      have hm0 : (zrM M 8 (t + 1).toNat).1 36 9 = p := (hch0.1 36 9 (by omega)).trans hm
      obtain ⟨M', k1, k2, k3, k4, k5⟩ := s_mulO K hp hφ hok0 ha hb ha8 hb8 hm0 hm2 (RP_chg hf hch0 (by simp; exact ha8) hNf) (RP_chg hg hch0 (by simp; exact hb8) hNg) hN (by omega) (by omega) (fun j hj => by
        show (zrM M 8 (t + 1).toNat).1 41 (24 * 8 + j) = 0
        unfold zrM; dsimp only; rw [if_pos (by omega)]) hn
      rw [← ht] at k1
      refine ⟨M', k1, k2, chg_mono (chg_trans hch0 k3) (fun x hx => by simpa using hx), k4, fun j hj => k5 j (by omega), fun j hj => mul_hi K (fun i hi => nu_hi K f hi) (fun i hi => nu_hi K g hi) j (by omega)⟩
  obtain ⟨M27, k1, k2, k3, k4, k5, k6⟩ := key
  obtain ⟨t1, t2, t3⟩ := s_trimP K hφ k2 (s := 8) (by omega) ht1.2 ht1.1 (f := f * g) k5 k6 hn
  have hNfg : nu ct (f * g) ≤ 24 := nu_le K (fun i hi => k6 i (by omega))
  obtain ⟨M28, hM28⟩ : ∃ M28, M28 = oI M27 42 8 ((nu ct (f * g) : Int) - 1) := ⟨_, rfl⟩
  rw [← hM28] at t1 t2 t3
  have hch28 : chg [8] M M28 := by rw [hM28]; exact chg_mono (chg_trans k3 (chg_oI _)) (fun x hx => by simpa using hx)
  have hm28 : M28.1 36 9 = p := (hch28.1 36 9 (by omega)).trans hm
  obtain ⟨M29, q, r, r1, r2, r3, r4, r5, r6, _⟩ := s_rest K hp hφ t3 (a := 8) (by omega) hc (fun z => hc8 z.symm) (by omega) hc3 hm28 hm2 t2 (RP_chg hh hch28 (by simp; exact hc8) hNh) hNfg hNh hh0 hh1 hn
  obtain ⟨M30, c1, c2, c3, c4⟩ := s_copyP r2 (a := 8) (by omega) hd r6 (by omega) hn
  refine ⟨M30, q, r, ?_, c2, chg_mono (chg_trans (chg_trans hch28 r3) c3) (fun x hx => by simp at hx ⊢; omega), r4, r5, c4⟩
  unfold f_X8_multiply
  have haa : (a : Nat) < kn 42 := by rw [k42.2]; exact ha
  rw [odI_n a rfl rfl haa, hda] at hv5
  rw [odI_n a rfl rfl haa, bs, hda, hv5, bs, hZ, bs, k1, bs]
  have e1 : f_X8_trim n 8 t M27 = some M28 := t1
  have e2 : f_X8_rest n 8 c M28 = some M29 := r1
  have e3 : f_X8_copy n 8 d M29 = some M30 := c1
  rw [e1, bs, e2, bs, e3, bs]
end MRefC
