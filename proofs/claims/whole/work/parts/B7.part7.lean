/-! the class's parts -/
section MPart7
theorem c_findFixed1 {R T : Type} [Lean.Grind.CommRing R] [Lean.Grind.CommRing T] {ct : T → Nat → R} (K : isPol ct) {p : Nat} {φ : Int → R} (hφ : isRed φ p) {M : MI} (hM : ok M) {a : Nat} (ha : row a) {f : T} (hf : CP ct φ p M a f) (hN : nu ct f ≤ 1) {n : Nat} (hn : 18446744073709551616 ≤ n) : f_X6_findFixed n a M = some (oI M 4 2 0) := by
  have hd := c_degreeP K hφ hM ha hf hn
  unfold f_X6_findFixed
  rw [hd, bs]
  show (Option.bind (some (oI M 4 2 0)) _) = _
  rw [bs, gI_s (by omega) (by omega), bs, if_neg (by omega)]
theorem ko7_chS {As : List Nat} {M M' : MI} (h : chS As M M') (hs : ∀ x ∈ As, ¬ (36 ≤ x ∧ x ≤ 48)) : ko7 M M' := fun k i a b => ⟨h.1 k i (fun z => hs k z ⟨a, b⟩), h.2 k i (by omega) (by omega)⟩
theorem sm7_chS {As : List Nat} {M M' : MI} (h : chS As M M') : sm7 M M' := ⟨fun p j hp => h.2 _ _ (by omega) (by omega), fun i => h.2 _ _ (by omega) (by omega), fun i => h.2 _ _ (by omega) (by omega), h.2 _ _ (by omega) (by omega), h.2 _ _ (by omega) (by omega)⟩
theorem c_parts7 {S : Type} [Lean.Grind.CommRing S] {co : S → Nat → Int} (P : isPol co) {M : MI} (hM : ok M) (hbd : bd7 M) {a b : Int} (ha : inI a) (hb : inI b) {n : Nat} (hn : 18446744073709551616 ≤ n) : ∃ M', ok M' ∧ ko7 M M' ∧ sm7 M M' ∧ ((¬ (0 ≤ a ∧ a < 80) ∧ tw7 1 M' (f_X7_parts n a b M)) ∨ ((0 ≤ a ∧ a < 80) ∧ ¬ (2 ≤ b ∧ b ≤ 97 ∧ prm b.toNat) ∧ tw7 3 M' (f_X7_parts n a b M)) ∨ ((0 ≤ a ∧ a < 80) ∧ (2 ≤ b ∧ b ≤ 97 ∧ prm b.toNat) ∧ (((nu co (po7 P M a.toNat) = 0 ∨ b ∣ co (po7 P M a.toNat) (nu co (po7 P M a.toNat) - 1)) ∧ an7 (-1) M' (f_X7_parts n a b M)) ∨ (nu co (po7 P M a.toNat) ≠ 0 ∧ ¬ b ∣ co (po7 P M a.toNat) (nu co (po7 P M a.toNat) - 1) ∧ ∃ (R T : Type) (_ : Lean.Grind.CommRing R) (_ : Lean.Grind.CommRing T) (ct : T → Nat → R) (K : isPol ct) (hp : isZp R b.toNat) (φ : Int → R) (hφ : isRed φ b.toNat) (L : List T), FL (nu ct) (rd P K hp hφ (po7 P M a.toNat)) L ∧ an7 (L.length : Nat) M' (f_X7_parts n a b M))))) := by
  unfold tw7 an7 f_X7_parts
  rw [c_reqP ha]
  by_cases h1 : 0 ≤ a ∧ a < 80
  · rw [if_pos h1, bs]
    dsimp only
    rcases c_isSmallPrime hb hn with ⟨hpr, ep⟩ | ⟨hnp, ep⟩
    · rw [ep, bs, gI_s (by omega) (by omega), bs, if_neg (by omega)]
      have r10 : row 10 := ⟨rfl, rfl⟩
      have r11 : row 11 := ⟨rfl, rfl⟩
      obtain ⟨M1, e1, hok1, hc1, cA⟩ := c_loadZ P hM (p := a.toNat) (a := 10) (by omega) r10 (by omega) hn
      rw [show ((a.toNat : Nat) : Int) = a by omega] at e1
      have xA := po7_X P hbd (p := a.toNat) (by omega)
      obtain ⟨A, hA⟩ : ∃ A, po7 P M a.toNat = A := ⟨_, rfl⟩
      rw [hA] at xA cA ⊢
      have hN := cA.2
      have hk1 : ko7 M M1 := ko7_ch hc1 (by simp)
      obtain ⟨p, hpb⟩ : ∃ p : Nat, b = p := ⟨b.toNat, by omega⟩
      subst hpb
      rw [Int.toNat_natCast] at hpr ⊢
      rw [e1, bs, c_degree P hok1 r10 cA hn, bs, gI_s (by omega) (by omega), bs]
      by_cases h0 : nu co A = 0
      · exact ⟨M1, hok1, hk1, sm7_of hc1.1, Or.inr (Or.inr ⟨h1, hpr, Or.inl ⟨Or.inl h0, by rw [if_pos (by omega)]⟩⟩)⟩
      · have hlc := nz_le.mp (xA (nu co A - 1))
        have er : orJ (co A (nu co A - 1)) (p : Int) = some ((co A (nu co A - 1)).tmod p) := by unfold orJ; rw [if_pos ⟨by omega, by omega, by omega, by omega⟩]
        have htb : ((co A (nu co A - 1)).tmod p).natAbs ≤ (co A (nu co A - 1)).natAbs := by rw [Int.natAbs_tmod]; exact Nat.mod_le _ _
        rw [if_neg (by omega), odJ_n (nu co A - 1) r10.1 (by omega) (by rw [r10.2]; omega), bs, cA.1 (nu co A - 1) (by omega), gI_s hb (by omega), bs, er, bs, gJ_s (by omega) (by omega), bs]
        by_cases hdv : (p : Int) ∣ co A (nu co A - 1)
        · exact ⟨M1, hok1, hk1, sm7_of hc1.1, Or.inr (Or.inr ⟨h1, hpr, Or.inl ⟨Or.inr hdv, by rw [if_pos (Int.tmod_eq_zero_of_dvd hdv)]⟩⟩)⟩
        · have hnz : ¬ (co A (nu co A - 1)).tmod p = 0 := fun z => hdv (Int.dvd_of_tmod_eq_zero z)
          rw [if_neg hnz, bs, c_choose (by omega), bs]
          obtain ⟨M2, hM2⟩ : ∃ M2, M2 = oJ M1 1 0 (p : Int) := ⟨_, rfl⟩
          have e2 : oJ M1 1 0 (if 2 < (p : Int) then (p : Int) else 2) = M2 := by
            rw [hM2]
            congr 1
            split <;> omega
          rw [e2]
          have hok2 : ok M2 := by rw [hM2]; exact ok_oJ hok1 (by omega)
          have hc2 : chJ [1] M1 M2 := by rw [hM2]; exact chJ_oJ M1 1 0 p
          have hm2 : M2.1 1 0 = p := by rw [hM2, oJ_1, if_pos ⟨rfl, rfl⟩]
          have cA2 := CZ_ch cA hc2 (by simp)
          obtain ⟨R, T, I, J, ct, φ, K, hp, hφ⟩ := zp_ex hpr.2.2
          have hF := hp.2.2.1
          have hNr := rd_N P K hp hφ hdv
          have hr0 : rd P K hp hφ A ≠ 0 := fun z => by rw [(nu_zero K).mpr z] at hNr; omega
          obtain ⟨M3, c, e3, hok3, hc3, c3, hcne, hcinv, n3⟩ := c_makeMonic K hp hφ hok2 (a := 10) (b := 11) r10 r11 hm2 (by omega) (f := rd P K hp hφ A) (fun i hi => by rw [cA2.1 i hi, rd_co P K hp hφ]) (by omega) (fun i hi => by rw [cA2.1 i hi]; have := nz_le.mp (xA i); omega) hn
          obtain ⟨L, hL⟩ := FL_ex (pol_EU K hF) _ (rd P K hp hφ A) (Nat.le_refl _) hr0
          have hm3 : M3.1 1 0 = p := by rw [hc3.2 1 0 (by simp)]; exact hm2
          have h32 : M3.2 = M.2 := hc3.1.trans (hc2.1.trans hc1.1)
          have hk3 : ko7 M M3 := ko7_trans hk1 (ko7_trans (ko7_ch hc2 (by simp)) (ko7_ch hc3 (by simp)))
          rw [e3, bs]
          by_cases hone : nu co A = 1
          · have e4 := c_findFixed1 K hφ hok3 r11 c3 (by omega) hn
            have hL0 : L.length = 0 := by
              have := FL_len K hF hr0 hL
              omega
            refine ⟨oI M3 4 2 0, ok_oI hok3 (by omega), ko7_trans hk3 (fun k i a b => ⟨rfl, by rw [oI_2, if_neg (by omega)]⟩), sm7_trans (sm7_of h32) ⟨fun p j hp => by rw [oI_2, if_neg (by omega)], fun i => by rw [oI_2, if_neg (by omega)], fun i => by rw [oI_2, if_neg (by omega)], by rw [oI_2, if_neg (by omega)], by rw [oI_2, if_neg (by omega)]⟩, Or.inr (Or.inr ⟨h1, hpr, Or.inr ⟨h0, hdv, R, T, I, J, ct, K, hp, φ, hφ, L, hL, ?_⟩⟩)⟩
            rw [e4, bs, oI_2, if_pos ⟨rfl, rfl⟩, hL0]; rfl
          · have hmon : ct (mo K c 0 * rd P K hp hφ A) (nu ct (mo K c 0 * rd P K hp hφ A) - 1) = 1 := by rw [n3, mo_0 K, ← hcinv hr0]; grind
            obtain ⟨M4, B, k, e4, hok4, hc4, h42, -, hIsB, -, -, -, -⟩ := c_findFixed K hp hφ (by omega) hok3 (a := 11) r11 (by omega) (by omega) hm3 c3 (by omega) hmon hn
            have hk := isB_cnt K hp (by omega) hIsB (FL_unit K hF hcne hL)
            refine ⟨M4, hok4, ko7_trans hk3 (ko7_chS hc4 (by decide)), sm7_trans (sm7_of h32) (sm7_chS hc4), Or.inr (Or.inr ⟨h1, hpr, Or.inr ⟨h0, hdv, R, T, I, J, ct, K, hp, φ, hφ, L, hL, ?_⟩⟩)⟩
            rw [e4, bs, h42, hk]
    · refine ⟨M, hM, ko7_refl M, sm7_of rfl, Or.inr (Or.inl ⟨h1, hnp, ?_⟩)⟩
      rw [ep, bs, gI_s (by omega) (by omega), bs, if_pos rfl]
  · rw [if_neg h1, bs]; exact ⟨M, hM, ko7_refl M, sm7_of rfl, Or.inl ⟨h1, rfl⟩⟩
end MPart7
