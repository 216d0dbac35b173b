/-! the class's gcd, squareFree, takeSquareFreePart -/
section MGcd7
theorem dr_X {S : Type} [Lean.Grind.CommRing S] {co : S → Nat → Int} (P : isPol co) {F : S} (hNF : nu co F ≤ 11) (hXF : ∀ i, nz (co F i) ≤ 9999) (i : Nat) : nz (co (dr P F) i) ≤ 99990 := by
  rcases Nat.lt_or_ge i 10 with q | q
  · rw [dr_co P, nt_int]
    have h1 : nz ((i + 1 : Nat) : Int) ≤ 10 := by unfold nz; omega
    have := nz_mul_le h1 (hXF (i + 1))
    omega
  · have h0 : co (dr P F) i = 0 := by rw [dr_co P, nu_hi P F (by omega)]; grind
    rw [h0]; decide
theorem be_gcd : 219978 ^ 20 < pdN prp 16 := by decide +kernel
theorem be_sqf : 1209879 ^ 19 < pdN prp 16 := by decide +kernel
theorem c_gcd7 {S : Type} [Lean.Grind.CommRing S] {co : S → Nat → Int} (P : isPol co) {M : MI} (hM : ok M) (hbd : bd7 M) {g : Nat} (hg : M.2 0 1 = g) (hg80 : g ≤ 80) {a b : Int} (ha : inI a) (hb : inI b) {n : Nat} (hn : 18446744073709551616 ≤ n) : ∃ M', ok M' ∧ ko7 M M' ∧ ((¬ (0 ≤ a ∧ a < 80 ∧ 0 ≤ b ∧ b < 80) ∧ tw7 1 M' (f_X7_gcd n a b M) ∧ sm7 M M') ∨ ((0 ≤ a ∧ a < 80 ∧ 0 ≤ b ∧ b < 80) ∧ g = 80 ∧ tw7 2 M' (f_X7_gcd n a b M) ∧ sm7 M M') ∨ ((0 ≤ a ∧ a < 80 ∧ 0 ≤ b ∧ b < 80) ∧ g < 80 ∧ ∃ d, ((po7 P M a.toNat = 0 ∧ po7 P M b.toNat = 0 ∧ d = 0) ∨ isG P (po7 P M a.toNat) (po7 P M b.toNat) d) ∧ ((sml co d ∧ an7 g M' (f_X7_gcd n a b M) ∧ app7 M M' (co d)) ∨ (¬ sml co d ∧ an7 (-1) M' (f_X7_gcd n a b M) ∧ sm7 M M')))) := by
  unfold tw7 an7 f_X7_gcd
  rw [c_reqP ha]
  by_cases h1 : 0 ≤ a ∧ a < 80
  · rw [if_pos h1, bs]
    dsimp only
    rw [c_reqP hb]
    by_cases h2 : 0 ≤ b ∧ b < 80
    · rw [if_pos h2, bs]
      dsimp only
      rw [c_reqN hM]
      by_cases h3 : M.2 0 1 < 80
      · rw [if_pos h3, bs]
        dsimp only
        have r10 : row 10 := ⟨rfl, rfl⟩
        have r11 : row 11 := ⟨rfl, rfl⟩
        obtain ⟨M1, e1, hok1, hc1, cA⟩ := c_loadZ P hM (p := a.toNat) (a := 10) (by omega) r10 (by omega) hn
        obtain ⟨M2, e2, hok2, hc2, cB⟩ := c_loadZ P hok1 (p := b.toNat) (a := 11) (by omega) r11 (by omega) hn
        rw [show ((a.toNat : Nat) : Int) = a by omega] at e1
        rw [show ((b.toNat : Nat) : Int) = b by omega] at e2
        rw [po7_sm P (sm7_of hc1.1) (by omega)] at cB
        have cA2 := CZ_ch cA hc2 (by simp)
        have xA := po7_X P hbd (p := a.toNat) (by omega)
        have xB := po7_X P hbd (p := b.toNat) (by omega)
        obtain ⟨A, hA⟩ : ∃ A, po7 P M a.toNat = A := ⟨_, rfl⟩
        obtain ⟨B, hB⟩ : ∃ B, po7 P M b.toNat = B := ⟨_, rfl⟩
        rw [hA] at xA cA2 ⊢
        rw [hB] at xB cB ⊢
        have hNA := cA2.2
        have hNB := cB.2
        have hk2 : ko7 M M2 := ko7_trans (ko7_ch hc1 (by simp)) (ko7_ch hc2 (by simp))
        have h22 : M2.2 = M.2 := hc2.1.trans hc1.1
        have hfind : ∃ M3 d, f_X0_find n 10 11 12 M2 = some M3 ∧ ok M3 ∧ chJ [1, 14, 16, 17, 18, 19, 12] M2 M3 ∧ CZ co M3 12 d ∧ ((A = 0 ∧ B = 0 ∧ d = 0) ∨ isG P A B d) := by
          by_cases hz : nu co A = 0 ∨ nu co B = 0
          · exact c_find0 P hok2 (a := 10) (b := 11) (c := 12) ⟨rfl, Or.inl ⟨rfl, rfl⟩⟩ cA2 cB hz xA (fun i => by have := xB i; omega) hn
          · have l1A := l1_le P hNA xA
            have l1B := l1_le P hNB xB
            obtain ⟨M3, d, k, e3, q1, q2, q3, q4, -⟩ := c_find P hok2 (a := 10) (b := 11) (c := 12) ⟨rfl, Or.inl ⟨rfl, rfl⟩⟩ cA2 cB (by omega) (by omega) xA (fun i => by have := xB i; omega) (Bd := 219978) (E := 20) (by omega) (by omega) (by omega) be_gcd hn
            exact ⟨M3, d, e3, q1, q2, q3, Or.inr q4⟩
        obtain ⟨M3, d, e3, hok3, hc3, c12, hd⟩ := hfind
        have hk3 : ko7 M M3 := ko7_trans hk2 (ko7_ch hc3 (by simp))
        have h32 : M3.2 = M.2 := hc3.1.trans h22
        rw [e1, bs, e2, bs, e3, bs]
        rcases c_isTooGreat P hok3 (a := 12) (N := 11) rfl rfl (by omega) (by omega) c12.1 c12.2 hn with ⟨hs, e4⟩ | ⟨hs, e4⟩
        · obtain ⟨M4, e5, hok4, hk4, ha4⟩ := c_keepA hok3 (g := g) (a := 12) (by rw [h32]; exact hg) (by omega) rfl (by decide) (v := co d) (fun j hj => ⟨c12.1 j hj, by have := nz_le.mp (hs.2 j); omega⟩) hn
          refine ⟨M4, hok4, ko7_trans hk3 hk4, Or.inr (Or.inr ⟨by omega, by omega, d, hd, Or.inl ⟨hs, ?_, sm7_app (sm7_of h32) ha4⟩⟩)⟩
          rw [e4, bs, gI_s (by omega) (by omega), bs, if_pos rfl, e5, bs]
        · refine ⟨M3, hok3, hk3, Or.inr (Or.inr ⟨by omega, by omega, d, hd, Or.inr ⟨hs, ?_, sm7_of h32⟩⟩)⟩
          rw [e4, bs, gI_s (by omega) (by omega), bs, if_neg (by omega)]
      · rw [if_neg h3, bs]; exact ⟨M, hM, ko7_refl M, Or.inr (Or.inl ⟨by omega, by omega, rfl, sm7_of rfl⟩)⟩
    · rw [if_neg h2, bs]; exact ⟨M, hM, ko7_refl M, Or.inl ⟨by omega, rfl, sm7_of rfl⟩⟩
  · rw [if_neg h1, bs]; exact ⟨M, hM, ko7_refl M, Or.inl ⟨by omega, rfl, sm7_of rfl⟩⟩
theorem c_squareFree7 {S : Type} [Lean.Grind.CommRing S] {co : S → Nat → Int} (P : isPol co) {M : MI} (hM : ok M) (hbd : bd7 M) {a : Int} (ha : inI a) {n : Nat} (hn : 18446744073709551616 ≤ n) : ∃ M', ok M' ∧ ko7 M M' ∧ sm7 M M' ∧ ((¬ (0 ≤ a ∧ a < 80) ∧ tw7 1 M' (f_X7_squareFree n a M)) ∨ ((0 ≤ a ∧ a < 80) ∧ ∃ r, an7 r M' (f_X7_squareFree n a M) ∧ ((nu co (po7 P M a.toNat) = 0 ∧ r = 0) ∨ (nu co (po7 P M a.toNat) = 1 ∧ r = 1) ∨ (2 ≤ nu co (po7 P M a.toNat) ∧ ∃ d, isG P (po7 P M a.toNat) (dr P (po7 P M a.toNat)) d ∧ r = if nu co d = 1 then 1 else 0)))) := by
  unfold tw7 an7 f_X7_squareFree
  rw [c_reqP ha]
  by_cases h1 : 0 ≤ a ∧ a < 80
  · rw [if_pos h1, bs]
    dsimp only
    have r10 : row 10 := ⟨rfl, rfl⟩
    have r11 : row 11 := ⟨rfl, rfl⟩
    have r12 : row 12 := ⟨rfl, rfl⟩
    obtain ⟨M1, e1, hok1, hc1, cA⟩ := c_loadZ P hM (p := a.toNat) (a := 10) (by omega) r10 (by omega) hn
    rw [show ((a.toNat : Nat) : Int) = a by omega] at e1
    have xA := po7_X P hbd (p := a.toNat) (by omega)
    obtain ⟨A, hA⟩ : ∃ A, po7 P M a.toNat = A := ⟨_, rfl⟩
    rw [hA] at xA cA ⊢
    have hNA := cA.2
    rw [e1, bs, c_degree P hok1 r10 cA hn, bs, gI_s (by omega) (by omega), bs]
    by_cases h0 : nu co A = 0
    · refine ⟨M1, hok1, ko7_ch hc1 (by simp), sm7_of hc1.1, Or.inr ⟨h1, 0, ?_, Or.inl ⟨h0, rfl⟩⟩⟩
      rw [if_neg (by omega)]
    · rw [if_pos (by omega)]
      obtain ⟨M2, e2, hok2, hc2, cD⟩ := c_derive P hok1 (a := 10) (b := 11) r10 r11 (by omega) cA (fun i => by have := xA i; omega) hn
      have cA2 := CZ_ch cA hc2 (by simp)
      have xD := dr_X P hNA xA
      have hND := nu_dr P h0
      have hAne : A ≠ 0 := fun z => h0 ((nu_zero P).mpr z)
      have hfind : ∃ M3 d, f_X0_find n 10 11 12 M2 = some M3 ∧ ok M3 ∧ chJ [1, 14, 16, 17, 18, 19, 12] M2 M3 ∧ CZ co M3 12 d ∧ isG P A (dr P A) d := by
        by_cases hz : nu co A = 1
        · obtain ⟨M3, d, q1, q2, q3, q4, q5⟩ := c_find0 P hok2 (a := 10) (b := 11) (c := 12) ⟨rfl, Or.inl ⟨rfl, rfl⟩⟩ cA2 cD (Or.inr (by omega)) xA xD hn
          exact ⟨M3, d, q1, q2, q3, q4, q5.resolve_left (fun z => hAne z.1)⟩
        · have l1A := l1_le P hNA xA
          have l1B := l1_le P cD.2 xD
          obtain ⟨M3, d, k, e3, q1, q2, q3, q4, -⟩ := c_find P hok2 (a := 10) (b := 11) (c := 12) ⟨rfl, Or.inl ⟨rfl, rfl⟩⟩ cA2 cD (by omega) (by omega) xA xD (Bd := 1209879) (E := 19) (by omega) (by omega) (by omega) be_sqf hn
          exact ⟨M3, d, e3, q1, q2, q3, q4⟩
      obtain ⟨M3, d, e3, hok3, hc3, c12, hd⟩ := hfind
      have hNd := c12.2
      have hd0 : nu co d ≠ 0 := fun z => prim_ne P hd.1 ((nu_zero P).mp z)
      have hdA := z_le P hd.2.2.1 hAne
      have hk3 : ko7 M M3 := ko7_trans (ko7_ch hc1 (by simp)) (ko7_trans (ko7_ch hc2 (by simp)) (ko7_ch hc3 (by simp)))
      have h32 : M3.2 = M.2 := hc3.1.trans (hc2.1.trans hc1.1)
      rw [e2, bs, e3, bs, c_degree P hok3 r12 c12 hn, bs, gI_s (by omega) (by omega), bs]
      by_cases hz : nu co A = 1
      · refine ⟨M3, hok3, hk3, sm7_of h32, Or.inr ⟨h1, 1, ?_, Or.inr (Or.inl ⟨hz, rfl⟩)⟩⟩
        rw [if_pos (by omega), bs]; rfl
      · refine ⟨M3, hok3, hk3, sm7_of h32, Or.inr ⟨h1, if nu co d = 1 then 1 else 0, ?_, Or.inr (Or.inr ⟨by omega, d, hd, rfl⟩)⟩⟩
        by_cases hy : nu co d = 1
        · rw [if_pos (by omega), bs, if_pos hy]; rfl
        · rw [if_neg (by omega), bs, if_neg hy]; rfl
  · rw [if_neg h1, bs]; exact ⟨M, hM, ko7_refl M, sm7_of rfl, Or.inl ⟨h1, rfl⟩⟩
theorem c_takeSq {S : Type} [Lean.Grind.CommRing S] {co : S → Nat → Int} (P : isPol co) {M : MI} (hM : ok M) {F : S} (cF : CZ co M 10 F) (hN2 : 2 ≤ nu co F) (hXF : ∀ i, nz (co F i) ≤ 9999) (hFp : prim co F) (hFl : 0 < co F (nu co F - 1)) {n : Nat} (hn : 18446744073709551616 ≤ n) :
    ∃ M' g G k, f_X2_takeSquareFreePart n 10 M = some M' ∧ ok M' ∧ chJ [1, 14, 16, 17, 18, 19, 28, 30, 31] M M' ∧ CZ co M' 28 G ∧ isG P F (dr P F) g ∧ F = g * G ∧ 2 ≤ nu co G ∧ prim co G ∧ 0 < co G (nu co G - 1) ∧ (∀ i, nz (co G i) ≤ 979902) ∧ k < 16 ∧ M'.1 1 0 = prp k ∧ ¬ (prp k : Int) ∣ co G (nu co G - 1) ∧ ∃ (R T : Type) (_ : Lean.Grind.CommRing R) (_ : Lean.Grind.CommRing T) (ct : T → Nat → R) (φ : Int → R) (K : isPol ct) (hp : isZp R (prp k)) (hφ : isRed φ (prp k)), sqf (nu ct) (rd P K hp hφ G) := by
  have r10 : row 10 := ⟨rfl, rfl⟩
  have r18 : row 18 := ⟨rfl, rfl⟩
  have r28 : row 28 := ⟨rfl, rfl⟩
  have r30 : row 30 := ⟨rfl, rfl⟩
  have r31 : row 31 := ⟨rfl, rfl⟩
  have hNF := cF.2
  have hFne := prim_ne P hFp
  have hND := nu_dr P (f := F) (by omega)
  have hDne : dr P F ≠ 0 := fun z => by rw [(nu_zero P).mpr z] at hND; omega
  obtain ⟨M1, e1, hok1, hc1, cD⟩ := c_derive P hM (a := 10) (b := 30) r10 r30 (by omega) cF (fun i => by have := hXF i; omega) hn
  have cF1 := CZ_ch cF hc1 (by simp)
  have xD := dr_X P hNF hXF
  have l1A := l1_le P hNF hXF
  have l1B := l1_le P cD.2 xD
  obtain ⟨M2, g, k, e2, hok2, hc2, c31, hg, hk, hm2, R, T, I, J, ct, φ, K, hp, hφ, x, y, hxy⟩ := c_find P hok1 (a := 10) (b := 30) (c := 31) ⟨rfl, Or.inr ⟨rfl, rfl⟩⟩ cF1 cD (by omega) (by omega) hXF xD (Bd := 1209879) (E := 19) (by omega) (by omega) (by omega) be_sqf hn
  have cF2 := CZ_ch cF1 hc2 (by simp)
  obtain ⟨g1, g2, g3, g4, g5⟩ := id hg
  obtain ⟨G, hG⟩ := id g3
  obtain ⟨b1, b2⟩ := bomb_dv P (by omega) hNF (X := 9999) (by omega) hXF hG
  obtain ⟨M3, hok3, hc3, hd3⟩ := c_divide P hok2 (a := 10) (b := 31) r10 r31 (by omega) (by omega) (by omega) (by omega) cF2 c31 (fun i => by have := b1 i; omega) (fun i => by have := hXF i; omega) hn
  rcases hd3 with ⟨e3, -, q, hq, c18, -⟩ | ⟨e3, hnd⟩
  · have hg0 := prim_ne P g1
    have hqG : q = G := z_cancel P hg0 (by rw [← hq, ← hG])
    rw [hqG] at c18
    have hG0 : G ≠ 0 := fun z => hFne (by rw [hG, z]; grind)
    have hNm := nu_mul P int_D hg0 hG0
    rw [← hG] at hNm
    have ng0 : nu co g ≠ 0 := fun z => hg0 ((nu_zero P).mp z)
    have hgD := z_le P g4 hDne
    have hGp : prim co G := prim_dv P hFp ⟨g, by rw [hG]; grind⟩
    have hlc := lc_dv P hg0 hG0
    rw [← hG] at hlc
    have hGl : 0 < co G (nu co G - 1) := by
      rw [hlc] at hFl
      exact Int.pos_of_mul_pos_right hFl (by omega)
    obtain ⟨M4, e4, hok4, hc4, c28⟩ := c_copyZ hok3 (a := 18) (b := 28) r18 r28 c18
    obtain ⟨pr, -, plo, phi, -⟩ := prp_prm k hk
    have hnd : ∀ z : Int, 0 < z → z ≤ 9999999 → ¬ (prp k : Int) ∣ z := fun z h1 h2 h3 => by
      have := Int.le_of_dvd h1 h3
      omega
    have hFn : ¬ (prp k : Int) ∣ co F (nu co F - 1) := hnd _ hFl (by have := nz_le.mp (hXF (nu co F - 1)); omega)
    have hGn : ¬ (prp k : Int) ∣ co G (nu co G - 1) := hnd _ hGl (by have := nz_le.mp (b2 (nu co G - 1)); omega)
    have hrN := rd_N P K hp hφ hFn
    refine ⟨M4, g, G, k, ?_, hok4, ?_, c28, hg, hG, by omega, hGp, hGl, fun i => by have := b2 i; omega, hk, ?_, hGn, R, T, I, J, ct, φ, K, hp, hφ, ?_⟩
    · unfold f_X2_takeSquareFreePart
      rw [e1, bs, e2, bs, e3, bs]
      dsimp only
      rw [e4, bs]
    · exact chJ_mono (chJ_trans hc1 (chJ_trans hc2 (chJ_trans hc3 hc4))) (fun x hx => by simp at hx ⊢; omega)
    · rw [hc4.2 1 0 (by simp), hc3.2 1 0 (by simp)]; exact hm2
    · refine sq_part K hp (f := rd P K hp hφ F) (g := rd P K hp hφ g) (u := x) (v := y) (fun z => ?_) (by omega) ?_ ?_ ?_
      · rw [(nu_zero K).mpr z] at hrN; omega
      · rw [← rd_mul P K hp hφ, ← hG]
      · rw [← rd_dr P K hp hφ]; exact rd_dv P K hp hφ g4
      · rw [hxy, rd_dr P K hp hφ]
  · rcases hnd with z | z
    · exact absurd ((nu_zero P).mp z) (prim_ne P g1)
    · exact absurd ⟨G, hG, fun i => by have := b2 i; omega⟩ z
end MGcd7
