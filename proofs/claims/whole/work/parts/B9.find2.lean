/-! the class's find -/
section MFind2
theorem c_find {S : Type} [Lean.Grind.CommRing S] {co : S → Nat → Int} (P : isPol co) {M : MI} (hM : ok M) {a b c : Nat} (habc : a = 10 ∧ ((b = 11 ∧ c = 12) ∨ (b = 30 ∧ c = 31))) {A B : S} (hA : CZ co M a A) (hB : CZ co M b B) (hA0 : nu co A ≠ 0) (hB0 : nu co B ≠ 0) (hXA : ∀ i, nz (co A i) ≤ 9999) (hXB : ∀ i, nz (co B i) ≤ 99990) {Bd E : Nat} (hl : l1 co A + l1 co B ≤ Bd) (hE : nu co A + nu co B ≤ E + 2) (hE1 : 1 ≤ E) (hBE : Bd ^ E < pdN prp 16) {n : Nat} (hn : 18446744073709551616 ≤ n) :
    ∃ M' g k, f_X0_find n a b c M = some M' ∧ ok M' ∧ chJ [1, 14, 16, 17, 18, 19, c] M M' ∧ CZ co M' c g ∧ isG P A B g ∧ k < 16 ∧ M'.1 1 0 = prp k ∧ ∃ (R T : Type) (_ : Lean.Grind.CommRing R) (_ : Lean.Grind.CommRing T) (ct : T → Nat → R) (φ : Int → R) (K : isPol ct) (hp : isZp R (prp k)) (hφ : isRed φ (prp k)) (x y : T), rd P K hp hφ g = x * rd P K hp hφ A + y * rd P K hp hφ B := by
  have ra : row a := by rw [habc.1]; exact ⟨rfl, rfl⟩
  have rb : row b := by rcases habc.2 with z | z <;> rw [z.1] <;> exact ⟨rfl, rfl⟩
  have rc : row c := by rcases habc.2 with z | z <;> rw [z.2] <;> exact ⟨rfl, rfl⟩
  have hNA := hA.2
  have hNB := hB.2
  have hAne : A ≠ 0 := fun h => hA0 ((nu_zero P).mpr h)
  have hBne : B ≠ 0 := fun h => hB0 ((nu_zero P).mpr h)
  obtain ⟨g, hG⟩ := isG_ex P B hAne
  have hG' := hG
  obtain ⟨g1, g2, gA, gB, c0, u0, v0, hc0, he0⟩ := hG
  obtain ⟨C0, u, v, hC0, hCB, hCe⟩ := good_c P hAne hBne gA gB hc0 he0 hl hE hE1
  obtain ⟨H, hH⟩ : ∃ H, H = Nat.gcd (co A (nu co A - 1)).natAbs (co B (nu co B - 1)).natAbs := ⟨_, rfl⟩
  have hgood : ∀ X w : S, nu co X ≠ 0 → nu co X ≤ 11 → (∀ i, nz (co X i) ≤ 99990) → X = g * w → ∃ q, X = g * q ∧ ∀ i, nz (co q i) ≤ 1073741824 := fun X w x0 x1 x2 hw => by
    obtain ⟨z1, z2⟩ := bomb_dv P x0 x1 (X := 99990) (by omega) x2 hw
    exact ⟨w, hw, fun i => by have := z2 i; omega⟩
  have hgne : nu co g ≠ 0 := fun z => prim_ne P g1 ((nu_zero P).mp z)
  obtain ⟨M', hr, hok', hch', k, hk, hcz, hm', hx⟩ := lp_do (step := l_X0_find_60 n a b c H) (fun st => ok st.1 ∧ chJ [1, 14, 16, 17, 18, 19, c] M st.1 ∧ ∃ k : Nat, st.2.2 = k ∧ k ≤ 16 ∧ ((st.2.1 = 0 ∧ ∀ j, j < k → (prp j : Int) ∣ C0) ∨ (st.2.1 = 1 ∧ 1 ≤ k ∧ CZ co st.1 c g ∧ st.1.1 1 0 = prp (k - 1) ∧ ∃ (R T : Type) (_ : Lean.Grind.CommRing R) (_ : Lean.Grind.CommRing T) (ct : T → Nat → R) (φ : Int → R) (K : isPol ct) (hp : isZp R (prp (k - 1))) (hφ : isRed φ (prp (k - 1))) (x y : T), rd P K hp hφ g = x * rd P K hp hφ A + y * rd P K hp hφ B))) (fun st => (50 - st.2.2).toNat) (fun M' => ok M' ∧ chJ [1, 14, 16, 17, 18, 19, c] M M' ∧ ∃ k, k < 16 ∧ CZ co M' c g ∧ M'.1 1 0 = prp k ∧ ∃ (R T : Type) (_ : Lean.Grind.CommRing R) (_ : Lean.Grind.CommRing T) (ct : T → Nat → R) (φ : Int → R) (K : isPol ct) (hp : isZp R (prp k)) (hφ : isRed φ (prp k)) (x y : T), rd P K hp hφ g = x * rd P K hp hφ A + y * rd P K hp hφ B) (fun st hst => by
    obtain ⟨M0, fl, y⟩ := st
    obtain ⟨k1, k2, k, hy, hk16, hcase⟩ := hst
    dsimp only at k1 k2 hy hcase
    subst hy
    unfold l_X0_find_60
    dsimp only
    rw [gI_s (by omega) (by omega), bs]
    rcases hcase with ⟨hfl, hdiv⟩ | ⟨hfl, hk1, hcz, hm, hx⟩
    · subst hfl
      have hk : k < 16 := by
        rcases Nat.lt_or_ge k 16 with q | q
        · exact q
        · exact (prp_no (C := C0.natAbs) (by omega) hCB hBE (fun j hj => Int.ofNat_dvd_left.mp (hdiv j (by omega)))).elim
      have hA' := CZ_ch hA k2 (by simp; omega)
      have hB' := CZ_ch hB k2 (by simp; omega)
      obtain ⟨M1, M2, M3, M4, C, e1, e2, e3, e4, hok4, hch4, hm4, r4, hCX, ht1, ht2, hrx⟩ := cf_step P k1 habc hk hA' hB' hA0 hB0 hXA hXB g1 g2 gA gB hc0 he0 hH hn
      have hA4 := CZ_ch hA' hch4 (by simp; omega)
      have hB4 := CZ_ch hB' hch4 (by simp; omega)
      have eP : oPR (k : Int) = some (PRn k) := by unfold oPR; rw [if_pos (by omega), Int.toNat_natCast]
      obtain ⟨Ma, hoka, hcha, hda⟩ := c_divide P hok4 (a := a) (b := c) ra rc (by omega) (by omega) (by omega) (by omega) hA4 r4 (fun i => by have := hCX i; omega) (fun i => by have := hXA i; omega) hn
      have hchMa : chJ [1, 14, 16, 17, 18, 19, c] M Ma := chJ_mono (chJ_trans k2 (chJ_trans hch4 hcha)) (fun x hx => by simp at hx ⊢; omega)
      have hnext : C ≠ g → ∀ j, j < k + 1 → (prp j : Int) ∣ C0 := fun hne j hj => by
        rcases Nat.lt_or_ge j k with q | q
        · exact hdiv j q
        · rw [show j = k by omega]
          exact Classical.byContradiction fun h => hne (ht2 C0 u v hCe h)
      rw [if_neg (by omega), gI_s (by omega) (by omega), bs, if_pos rfl, eP, bs, e1, bs, e2, bs, e3, bs, e4, bs]
      rcases hda with ⟨ea, hCn, qa, hqa, -, -⟩ | ⟨ea, hna⟩
      · rw [ea, bs]
        dsimp only
        rw [gI_s (by omega) (by omega), bs, if_neg (by omega)]
        have r4a := CZ_ch r4 hcha (by simp; omega)
        have hBa := CZ_ch hB4 hcha (by simp; omega)
        obtain ⟨Mb, hokb, hchb, hdb⟩ := c_divide P hoka (a := b) (b := c) rb rc (by omega) (by omega) (by omega) (by omega) hBa r4a (fun i => by have := hCX i; omega) (fun i => by have := hXB i; omega) hn
        have hchMb : chJ [1, 14, 16, 17, 18, 19, c] M Mb := chJ_mono (chJ_trans hchMa hchb) (fun x hx => by simp at hx ⊢; omega)
        rcases hdb with ⟨eb, -, qb, hqb, -, -⟩ | ⟨eb, hnb⟩
        · have hCg := ht1 ⟨qa, hqa⟩ ⟨qb, hqb⟩
          have r4b := CZ_ch r4a hchb (by simp; omega)
          rw [eb, bs]
          dsimp only
          rw [gI_s (by omega) (by omega), bs, if_neg (by omega), bs]
          rw [hCg] at r4b hrx
          refine Or.inr ⟨_, rfl, ⟨hokb, hchMb, k + 1, by dsimp only; omega, by omega, Or.inr ⟨rfl, by omega, r4b, ?_, by rw [Nat.add_sub_cancel]; exact hrx⟩⟩, by dsimp only; omega⟩
          rw [Nat.add_sub_cancel]
          dsimp only
          rw [hchb.2 1 0 (by simp), hcha.2 1 0 (by simp)]
          exact hm4
        · rw [eb, bs]
          dsimp only
          rw [gI_s (by omega) (by omega), bs, if_pos rfl, bs]
          refine Or.inr ⟨_, rfl, ⟨hokb, hchMb, k + 1, by dsimp only; omega, by omega, Or.inl ⟨rfl, hnext fun hCg => ?_⟩⟩, by dsimp only; omega⟩
          rcases hnb with z | z
          · exact hCn z
          · obtain ⟨w, hw⟩ := gB
            refine z ?_
            rw [hCg]
            exact hgood B w hB0 hNB hXB hw
      · rw [ea, bs]
        dsimp only
        rw [gI_s (by omega) (by omega), bs, if_pos rfl, bs]
        refine Or.inr ⟨_, rfl, ⟨hoka, hchMa, k + 1, by dsimp only; omega, by omega, Or.inl ⟨rfl, hnext fun hCg => ?_⟩⟩, by dsimp only; omega⟩
        rcases hna with z | z
        · rw [hCg] at z; exact hgne z
        · obtain ⟨w, hw⟩ := gA
          refine z ?_
          rw [hCg]
          exact hgood A w hA0 hNA (fun i => by have := hXA i; omega) hw
    · subst hfl
      have hout : ok M0 ∧ chJ [1, 14, 16, 17, 18, 19, c] M M0 ∧ ∃ k, k < 16 ∧ CZ co M0 c g ∧ M0.1 1 0 = prp k ∧ ∃ (R T : Type) (_ : Lean.Grind.CommRing R) (_ : Lean.Grind.CommRing T) (ct : T → Nat → R) (φ : Int → R) (K : isPol ct) (hp : isZp R (prp k)) (hφ : isRed φ (prp k)) (x y : T), rd P K hp hφ g = x * rd P K hp hφ A + y * rd P K hp hφ B := ⟨k1, k2, k - 1, by omega, hcz, hm, hx⟩
      by_cases h16 : (16 : Int) ≤ k
      · rw [if_pos h16]
        exact Or.inl ⟨_, rfl, hout⟩
      · rw [if_neg h16, gI_s (by omega) (by omega), bs, if_neg (by omega)]
        exact Or.inl ⟨_, rfl, hout⟩) n (M, 0, 0) ⟨hM, chJ_refl _ _, 0, rfl, by omega, Or.inl ⟨rfl, fun j hj => absurd hj (by omega)⟩⟩ (by dsimp only; omega)
  have hxa := nz_le.mp (hXA (nu co A - 1))
  have hxb := nz_le.mp (hXB (nu co B - 1))
  refine ⟨M', g, k, ?_, hok', hch', hcz, hG', hk, hm', hx⟩
  unfold f_X0_find
  rw [c_degree P hM ra hA hn, bs, c_degree P hM rb hB hn, bs, gI_s (by omega) (by omega), bs, if_neg (by omega), gI_s (by omega) (by omega), bs, if_pos (by omega), odJ_n (nu co A - 1) ra.1 (by omega) (by rw [ra.2]; omega), bs, odJ_n (nu co B - 1) rb.1 (by omega) (by rw [rb.2]; omega), bs, hA.1 _ (by omega), hB.1 _ (by omega), c_commonMeasure (by omega) (by omega) hn, bs, ← hH, hr, bs]
theorem c_find0 {S : Type} [Lean.Grind.CommRing S] {co : S → Nat → Int} (P : isPol co) {M : MI} (hM : ok M) {a b c : Nat} (habc : a = 10 ∧ ((b = 11 ∧ c = 12) ∨ (b = 30 ∧ c = 31))) {A B : S} (hA : CZ co M a A) (hB : CZ co M b B) (h0 : nu co A = 0 ∨ nu co B = 0) (hXA : ∀ i, nz (co A i) ≤ 9999) (hXB : ∀ i, nz (co B i) ≤ 99990) {n : Nat} (hn : 18446744073709551616 ≤ n) :
    ∃ M' g, f_X0_find n a b c M = some M' ∧ ok M' ∧ chJ [1, 14, 16, 17, 18, 19, c] M M' ∧ CZ co M' c g ∧ ((A = 0 ∧ B = 0 ∧ g = 0) ∨ isG P A B g) := by
  have ra : row a := by rw [habc.1]; exact ⟨rfl, rfl⟩
  have rb : row b := by rcases habc.2 with z | z <;> rw [z.1] <;> exact ⟨rfl, rfl⟩
  have rc : row c := by rcases habc.2 with z | z <;> rw [z.2] <;> exact ⟨rfl, rfl⟩
  have hNA := hA.2
  have hNB := hB.2
  have hpre : f_X0_find n a b c M = (Option.bind (f_X5_copy (if nu co A = 0 then b else a) c M) fun v4 => Option.bind (f_X5_makePrimitive n c v4) fun v5 => some v5) := by
    unfold f_X0_find
    rw [c_degree P hM ra hA hn, bs, c_degree P hM rb hB hn, bs, gI_s (by omega) (by omega), bs]
    by_cases z : nu co A = 0
    · rw [if_pos (by omega), bs, if_neg (by omega), bs, if_pos z]
    · rw [if_neg (by omega), gI_s (by omega) (by omega), bs, if_neg (by omega), bs, if_pos (by omega), bs, if_neg z]
  by_cases z : nu co A = 0
  · rw [if_pos z] at hpre
    obtain ⟨M1, e1, hok1, hc1, r1⟩ := c_copyZ hM rb rc hB
    obtain ⟨M2, g, e2, hok2, hc2, r2, hg, -⟩ := c_makePrimitive P hok1 rc r1 (fun i => by have := hXB i; omega) hn
    refine ⟨M2, g, by rw [hpre, e1, bs, e2, bs], hok2, chJ_mono (chJ_trans hc1 hc2) (fun x hx => by simp at hx ⊢; omega), r2, ?_⟩
    have hA0 := (nu_zero P).mp z
    rcases hg with ⟨h1, h2⟩ | ⟨h1, h2, h3, h4, h5, h6⟩
    · exact Or.inl ⟨hA0, (nu_zero P).mp h1, by rw [h2]; exact (nu_zero P).mp h1⟩
    · exact Or.inr (by rw [hA0]; exact isG_symm P (pp_isG P h6 h2 h3 h4))
  · rw [if_neg z] at hpre
    have hB0 := (nu_zero P).mp (h0.resolve_left z)
    obtain ⟨M1, e1, hok1, hc1, r1⟩ := c_copyZ hM ra rc hA
    obtain ⟨M2, g, e2, hok2, hc2, r2, hg, -⟩ := c_makePrimitive P hok1 rc r1 (fun i => by have := hXA i; omega) hn
    refine ⟨M2, g, by rw [hpre, e1, bs, e2, bs], hok2, chJ_mono (chJ_trans hc1 hc2) (fun x hx => by simp at hx ⊢; omega), r2, Or.inr ?_⟩
    obtain ⟨h1, h2, h3, h4, h5, h6⟩ := hg.resolve_left (fun q => z q.1)
    rw [hB0]
    exact pp_isG P h6 h2 h3 h4
end MFind2
