/-! the class's factorizer: joinPieces, countMultiplicities -/
section MClsE
theorem ins_pdn {T : Type} [Lean.Grind.CommRing T] (fo : Nat → T) (f : T) : ∀ {k j : Nat}, j ≤ k → pdn (ins fo j f) (k + 1) = pdn fo k * f
  | 0, j, h => by
    have e : j = 0 := by omega
    subst e
    show pdn (ins fo 0 f) 0 * ins fo 0 f 0 = _
    rw [ins_at]; rfl
  | k + 1, j, h => by
    show pdn (ins fo j f) (k + 1) * ins fo j f (k + 1) = pdn fo k * fo k * f
    rcases Nat.lt_or_ge k j with z | z
    · have e : j = k + 1 := by omega
      rw [e, ins_at]
      have : pdn (ins fo (k + 1) f) (k + 1) = pdn fo (k + 1) := pdn_congr (fun i hi => ins_lo fo f hi)
      rw [this]; rfl
    · rw [ins_pdn fo f (show j ≤ k by omega), ins_hi fo f (by omega), show k + 1 - 1 = k by omega]; grind
theorem rci_perm {S T R : Type} [Lean.Grind.CommRing S] [Lean.Grind.CommRing T] [Lean.Grind.CommRing R] {co : S → Nat → Int} (P : isPol co) {ct : T → Nat → R} (K : isPol ct) {p : Nat} (hp : isZp R p) {φ : Int → R} (hφ : isRed φ p) {q : Nat → T} {m : Nat} {G rest : S} {L : Nat} {fo fo2 : Nat → S} {k many set : Nat} (h : rci P K hp hφ q m G rest L fo k many set) (h1 : ∀ i, i < k → irz co (fo2 i)) (h2 : pdn fo2 k = pdn fo k) : rci P K hp hφ q m G rest L fo2 k many set := ⟨h1, by rw [h2]; exact h.2.1, h.2.2⟩
def RSZ : List Nat := [15, 18, 19, 28, 31] ++ FND
theorem c_joinPieces {S T R : Type} [Lean.Grind.CommRing S] [Lean.Grind.CommRing T] [Lean.Grind.CommRing R] {co : S → Nat → Int} (P : isPol co) {ct : T → Nat → R} (K : isPol ct) {p : Nat} (hp : isZp R p) {φ : Int → R} (hφ : isRed φ p) (hlo : 16777216 ≤ p) (hp2 : p ≤ 16778000) (hod : p % 2 = 1) {M : MI} (hM : ok M) (hmp : M.1 1 0 = p) {m : Nat} (hm10 : m ≤ 10) (hm1 : 1 ≤ m) {q : Nat → T} (hPC : PCc ct φ p M m q) (hirr : ∀ i, i < m → irr (nu ct) (q i)) (hcop : ∀ i j, i < m → j < m → i ≠ j → cop (q i) (q j)) {f : T} (hpd : pdn q m = f) (c29 : CP ct φ p M 29 f) (hf1 : ct f (nu ct f - 1) = 1) {F G : S} (hF0 : nu co F ≠ 0) (hNF : nu co F ≤ 11) (hXF : ∀ i, nz (co F i) ≤ 9999) (hGF : dv G F) (hGp : prim co G) (hGl : 0 < co G (nu co G - 1)) (hGlp : ¬ (p : Int) ∣ co G (nu co G - 1)) (hGs : ∀ π, irz co π → ¬ dv (π * π) G) {c : R} (hc : c ≠ 0) (hrdG : rd P K hp hφ G = mo K c 0 * f) (c28 : CZ co M 28 G) (h52 : M.2 5 2 = 0) {n : Nat} (hn : 18446744073709551616 ≤ n) :
    ∃ (M' : MI) (k : Nat) (fo : Nat → S), f_X2_joinPieces n M = some M' ∧ ok M' ∧ chF RSZ M M' ∧ FRc co M' k fo ∧ (∀ i, i < k → irz co (fo i)) ∧ pdn fo k = G ∧ (∀ x y, x < y → y < k → ltz co (fo x) (fo y)) ∧ k ≤ 10 := by
  have hFf := hp.2.2.1
  have hE := pol_EU K hFf
  have h1024 := pow_le10 hm10
  have hFne : F ≠ 0 := fun z => hF0 ((nu_zero P).mpr z)
  have hpow := Nat.pow_pos (a := 2) (n := m) (by omega)
  have hq : ∀ j, j < m → ct (q j) (nu ct (q j) - 1) = 1 ∧ 2 ≤ nu ct (q j) := fun j hj => (hPC.2 j hj).2
  have hpcm : ∀ a, pc a m ≤ m := fun a => by
    have : ∀ m', pc a m' ≤ m' := fun m' => by
      induction m' with
      | zero => simp [pc]
      | succ j ih => simp only [pc]; split <;> omega
    exact this m
  obtain ⟨w0, hw0⟩ := id hGF
  -- what holds all the while
  obtain ⟨Inv, hInv⟩ : ∃ Inv : MI → S → Nat → Nat → (Nat → S) → Nat → Nat → Nat → Prop, Inv = fun M1 rest L u fo k many set => ok M1 ∧ chF RSZ M M1 ∧ CZ co M1 28 rest ∧ FRc co M1 k fo ∧ (∀ x y, x < y → y < k → ltz co (fo x) (fo y)) ∧ rci P K hp hφ q m G rest L fo k many set ∧ (∀ i, i < m → tb L i = !tb u i) ∧ u < 2 ^ m ∧ 1 ≤ pc (tb L) m := ⟨_, rfl⟩
  have hk10 : ∀ {M1 rest L u fo k many set}, Inv M1 rest L u fo k many set → k + 2 ≤ nu co F ∧ rest ≠ 0 ∧ dv rest G ∧ 2 ≤ nu co rest := fun {M1 rest L u fo k many set} h => by
    rw [hInv] at h
    obtain ⟨-, -, -, -, -, hr, -, -, hpc⟩ := h
    obtain ⟨r1, r2, r3, r4, ⟨c1, hc1, r5⟩, -⟩ := id hr
    have hr0 := prim_ne P r3
    have h2 : 2 ≤ nu co rest := by
      obtain ⟨j, hj, hj2⟩ := pc_mem hpc
      have hpm0 := (pm_mon K hFf (q := q) (a := tb L) (m := m) hq).2
      have d1 := pm_mem (q := q) hj2 hj
      have n1 := eu_le hE d1 hpm0
      have n2 := (hq j hj).2
      have n3 : nu ct (rd P K hp hφ rest) ≤ nu co rest := nu_le K (fun i hh => by rw [rd_co P K hp hφ, nu_hi P rest hh]; exact red_zero hφ)
      have n4 : nu ct (mo K c1 0 * pm q (tb L) m) + 1 = 1 + nu ct (pm q (tb L) m) := by
        rw [nu_mul K (isF_D hFf) (fun z => by have := mo_N K (k := 0) hc1; rw [(nu_zero K).mpr z] at this; omega) hpm0, mo_N K 0 hc1]
      rw [r5] at n3
      omega
    have h3 := pdn_nuZ P (q := fo) (m := k) (fun j hj => (r1 j hj).2.1)
    have h4 := nu_mul P int_D h3.2 hr0
    rw [r2] at h4
    have h5 := z_le P hGF hFne
    exact ⟨by omega, hr0, ⟨pdn fo k, by rw [← r2]; grind⟩, h2⟩
  have hinit : Inv M G (2 ^ m - 1) 0 (fun _ => 0) 0 1 1 := by
    rw [hInv]
    have htb : ∀ i, i < m → tb (2 ^ m - 1) i = true := fun i hi => by unfold tb; rw [Nat.testBit_two_pow_sub_one]; exact decide_eq_true hi
    refine ⟨hM, chF_refl _ _, c28, ⟨h52, fun i hi => absurd hi (by omega)⟩, fun x y _ hy => absurd hy (by omega), ⟨fun i hi => absurd hi (by omega), by simp only [pdn]; grind, hGp, hGl, ⟨c, hc, ?_⟩, fun b g b1 b2 b3 b4 b5 => ?_⟩, fun i hi => by rw [htb i hi]; unfold tb; rw [Nat.zero_testBit]; rfl, hpow, ?_⟩
    · rw [hrdG, ← hpd]
      congr 1
      exact (pdn_congr (fun i hi => by rw [htb i hi, if_pos rfl])).symm
    · rcases b4 with b4 | ⟨b4, b6⟩
      · omega
      · exfalso
        have e : b = 0 := by omega
        subst e
        obtain ⟨i, _, hi⟩ := pc_mem b2
        unfold tb at hi
        rw [Nat.zero_testBit] at hi
        exact absurd hi (by decide)
    · obtain ⟨m', rfl⟩ : ∃ m', m = m' + 1 := ⟨m - 1, by omega⟩
      simp only [pc]
      rw [htb m' (by omega), if_pos rfl]
      omega
  -- one size
  have hin : ∀ {M1 rest L u fo k many}, Inv M1 rest L u fo k many 1 → 1 ≤ many → many ≤ 11 → ∃ (M2 : MI) (rest2 : S) (L2 u2 : Nat) (fo2 : Nat → S) (k2 set2 : Nat), lpF (l_X2_joinPieces_26 n many m) n (M1, ((pc (tb L) m : Nat) : Int), (u : Int), 1) = some (M2, ((pc (tb L2) m : Nat) : Int), (u2 : Int)) ∧ Inv M2 rest2 L2 u2 fo2 k2 many set2 ∧ (2 ^ m ≤ set2 ∨ pc (tb L2) m < 2 * many) := fun {M1 rest L u fo k many} hI hmany hmany11 => by
    obtain ⟨⟨M2, pl, ul⟩, hL, rest2, L2, u2, fo2, k2, set2, e1, e2, h1, h2⟩ := lp_do (step := l_X2_joinPieces_26 n many m) (fun st => ∃ (rest : S) (L u : Nat) (fo : Nat → S) (k set : Nat), st.2.1 = ((pc (tb L) m : Nat) : Int) ∧ st.2.2.1 = u ∧ st.2.2.2 = set ∧ 1 ≤ set ∧ set ≤ 2 ^ m ∧ Inv st.1 rest L u fo k many set) (fun st => (2000 - st.2.2.2).toNat) (fun r => ∃ (rest2 : S) (L2 u2 : Nat) (fo2 : Nat → S) (k2 set2 : Nat), r.2.1 = ((pc (tb L2) m : Nat) : Int) ∧ r.2.2 = u2 ∧ Inv r.1 rest2 L2 u2 fo2 k2 many set2 ∧ (2 ^ m ≤ set2 ∨ pc (tb L2) m < 2 * many)) (fun st hst => by
      obtain ⟨M1, pl, ui, si⟩ := st
      obtain ⟨rest, L, u, fo, k, set, e1, e2, e3, hs1, hs2, hI⟩ := hst
      dsimp only at e1 e2 e3 hI
      subst e1
      subst e2
      subst e3
      obtain ⟨hkF, hr0, hrG, hnr2⟩ := hk10 hI
      have hI' := hI
      rw [hInv] at hI'
      obtain ⟨k1, k2, c28a, hFR, hso, hrci, hLu, hu2, hpcL⟩ := hI'
      have hpl := hpcm (tb L)
      unfold l_X2_joinPieces_26
      dsimp only
      rw [oshlI1 (by omega), gI_s (by omega) (by omega), bs]
      by_cases hend : ((2 ^ m : Nat) : Int) ≤ set
      · rw [if_pos hend]
        exact Or.inl ⟨_, rfl, rest, L, u, fo, k, set, rfl, rfl, hI, Or.inl (by omega)⟩
      · rw [if_neg hend, gI_s (by omega) (by omega), bs]
        by_cases hstop : ((pc (tb L) m : Nat) : Int) < 2 * many
        · rw [if_pos hstop]
          exact Or.inl ⟨_, rfl, rest, L, u, fo, k, set, rfl, rfl, hI, Or.inr (by omega)⟩
        · have hset : set < 2 ^ m := by omega
          have hps := hpcm (tb set)
          have ebc : f_J6_bitCount_0f7a4 (set : Int) = some ((pc (tb set) m : Nat) : Int) := by rw [c_bitCount (by omega), pc_bit hset hm10]
          have hsub : (set &&& u = 0) ↔ ∀ i, i < m → tb set i = true → tb L i = true := by
            constructor
            · intro h i hi h1
              rw [hLu i hi]
              have h2 : (set &&& u).testBit i = false := by rw [h, Nat.zero_testBit]
              rw [Nat.testBit_and] at h2
              unfold tb at h1 ⊢
              rw [h1] at h2
              cases hb : u.testBit i
              · rfl
              · rw [hb] at h2; simp at h2
            · intro h
              apply Nat.eq_of_testBit_eq
              intro i
              rw [Nat.testBit_and, Nat.zero_testBit]
              rcases Nat.lt_or_ge i m with y | y
              · cases h1 : set.testBit i
                · rfl
                · have h3 := h i y h1
                  rw [hLu i y] at h3
                  unfold tb at h3
                  cases hb : u.testBit i
                  · rfl
                  · rw [hb] at h3; simp at h3
              · rw [Nat.testBit_lt_two_pow (Nat.lt_of_lt_of_le hset (Nat.pow_le_pow_right (by omega) y))]; rfl
          have hskip : ¬ ((∀ i, i < m → tb set i = true → tb L i = true) ∧ pc (tb set) m = many ∧ 2 * many ≤ pc (tb L) m) → Inv M1 rest L u fo k many (set + 1) := fun hs => by
            rw [hInv]
            exact ⟨k1, k2, c28a, hFR, hso, rci_skip P K hp hφ hrci hs, hLu, hu2, hpcL⟩
          rw [if_neg hstop, ebc, bs, gI_s (by omega) (by omega), bs]
          by_cases hz2 : ((pc (tb set) m : Nat) : Int) = many
          · have hand : oandI (set : Int) (u : Int) = ((set &&& u : Nat) : Int) := oandI_nat (by omega) (by omega)
            have hle : set &&& u ≤ set := Nat.and_le_left
            rw [if_pos hz2, hand, gI_s (by omega) (by omega), bs]
            by_cases hz : ((set &&& u : Nat) : Int) = 0
            · have hsb := hsub.mp (by omega)
              obtain ⟨w, hw⟩ := dv_trans hrG hGF
              have hPCa := PCc_ch hPC k2 (fun s hs => by simp [RSZ, FND] at hs; omega) hm10
              have c29a := CP_chF c29 k2 (by simp [RSZ, FND])
              have hmpa : M1.1 1 0 = p := by rw [k2.1 1 0 (by simp [RSZ, FND])]; exact hmp
              have hlr := rci_lc P K hp hφ hrci hGlp
              obtain ⟨M3, hok3, hc3, hd⟩ := c_fdivides P K hp hφ hlo hp2 hod k1 hmpa hm10 (by omega) hPCa hpd c29a hf1 (set := set) (by omega) (by omega) hF0 hNF hXF hw c28a hrci.2.2.2.1 hlr hn
              rw [if_pos hz]
              rcases hd with ⟨C, qq, ed, hqq, cC, cqq, hfac⟩ | ⟨ed, hno⟩
              · rw [ed, bs]
                dsimp only
                rw [gI_s (by omega) (by omega), bs, if_neg (by omega)]
                have hFR3 : FRc co M3 k fo := ⟨by rw [hc3.1]; exact hFR.1, fun i hi => CZ_ch (hFR.2 i hi) hc3 (by simp; omega)⟩
                have hCne : ∀ i, i < k → fo i ≠ C := fun i hi e => by
                  have h5 : dv (C * C) G := by
                    obtain ⟨y, hy⟩ := pdn_mem fo hi
                    refine ⟨y * qq, ?_⟩
                    rw [← hrci.2.1, hy, e, hqq]; grind
                  have hCi : irz co C := by rw [← e]; exact hrci.1 i hi
                  exact hGs C hCi h5
                obtain ⟨M4, j, e4, hok4, hc4, hjk, hFR4, hso4, h27⟩ := c_add P hok3 (a := 31) ⟨rfl, rfl⟩ (by omega) (k := k) (by omega) hFR3 hso cC hCne hn
                obtain ⟨M5, e5, hok5, hc5, c5⟩ := c_copyZ hok4 (a := 18) (b := 28) ⟨rfl, rfl⟩ ⟨rfl, rfl⟩ (CZ_chF cqq hc4 (by simp [FND]))
                have hor : oorI (u : Int) (set : Int) = ((u ||| set : Nat) : Int) := oorI_nat (by omega) (by omega)
                obtain ⟨L', hL'⟩ : ∃ L', L' = L &&& (L ^^^ set) := ⟨_, rfl⟩
                have hL'b : ∀ i, tb L' i = (tb L i && !tb set i) := fun i => by rw [hL']; exact tb_diff L set i
                have hrci' := rci_hit P K hp hφ hirr hcop (fo' := fun i => if i = k then C else fo i) hrci hGlp hsb (by omega) (by omega) hmany hfac hqq (L' := L') (fun i _ => hL'b i) (if_pos rfl) (fun i hi => if_neg (by omega))
                have hpcs : pc (tb L) m = pc (tb set) m + pc (tb L') m := pc_add (fun i hi => by
                  rw [hL'b i]
                  have h5 := hsb i hi
                  cases h6 : tb set i
                  · cases h7 : tb L i <;> simp
                  · rw [h5 h6]; simp)
                rw [e4, bs, e5, bs, hor, bs]
                refine Or.inr ⟨_, rfl, ⟨qq, L', u ||| set, ins fo j C, k + 1, set + 1, by dsimp only; omega, rfl, by dsimp only; omega, by omega, by omega, ?_⟩, by dsimp only; omega⟩
                rw [hInv]
                refine ⟨hok5, chF_mono (chF_trans k2 (chF_trans (chF_of hc3) (chF_trans hc4 (chF_of hc5)))) (fun x hx => by simp [RSZ, FND] at hx ⊢; omega), c5, ⟨by dsimp only; rw [hc5.1]; exact hFR4.1, fun i hi => CZ_ch (hFR4.2 i hi) hc5 (by simp; omega)⟩, hso4, rci_perm P K hp hφ hrci' (fun i hi => ?_) ?_, fun i hi => ?_, Nat.or_lt_two_pow hu2 hset, by omega⟩
                · rcases (ins_mem hjk C (ins fo j C i)).mp ⟨i, hi, rfl⟩ with ⟨l, hl, e⟩ | e
                  · rw [← e]; exact hrci.1 l hl
                  · rw [e]
                    have := hrci'.1 k (by omega)
                    dsimp only at this
                    rw [if_pos rfl] at this
                    exact this
                · rw [ins_pdn fo C hjk]
                  show _ = pdn (fun i => if i = k then C else fo i) k * (if k = k then C else fo k)
                  rw [if_pos rfl, pdn_congr (fun i hi => if_neg (by omega))]
                · rw [hL'b i, hLu i hi]
                  unfold tb
                  rw [Nat.testBit_or]
                  cases u.testBit i <;> cases set.testBit i <;> rfl
              · rw [ed, bs]
                dsimp only
                rw [gI_s (by omega) (by omega), bs, if_pos rfl, bs]
                refine Or.inr ⟨_, rfl, ⟨rest, L, u, fo, k, set + 1, rfl, rfl, by dsimp only; omega, by omega, by omega, ?_⟩, by dsimp only; omega⟩
                rw [hInv]
                exact ⟨hok3, chF_mono (chF_trans k2 (chF_of hc3)) (fun x hx => by simp [RSZ, FND] at hx ⊢; omega), CZ_ch c28a hc3 (by simp), ⟨by dsimp only; rw [hc3.1]; exact hFR.1, fun i hi => CZ_ch (hFR.2 i hi) hc3 (by simp; omega)⟩, hso, rci_no P K hp hφ hrci hno, hLu, hu2, hpcL⟩
            · rw [if_neg hz, bs]
              exact Or.inr ⟨_, rfl, ⟨rest, L, u, fo, k, set + 1, rfl, rfl, by dsimp only; omega, by omega, by omega, hskip (fun z => hz (by have := hsub.mpr z.1; omega))⟩, by dsimp only; omega⟩
          · rw [if_neg hz2, bs]
            exact Or.inr ⟨_, rfl, ⟨rest, L, u, fo, k, set + 1, rfl, rfl, by dsimp only; omega, by omega, by omega, hskip (fun z => by omega)⟩, by dsimp only; omega⟩) n (M1, ((pc (tb L) m : Nat) : Int), (u : Int), 1) ⟨rest, L, u, fo, k, 1, rfl, rfl, rfl, by omega, by omega, hI⟩ (by dsimp only; omega)
    dsimp only at e1 e2 h1
    subst e1
    subst e2
    exact ⟨M2, rest2, L2, u2, fo2, k2, set2, hL, h1, h2⟩
  -- all sizes
  obtain ⟨M24, hLo, rest, L, u, fo, k, many, set, hI, hfin⟩ := lp_do (step := l_X2_joinPieces_15 n m) (fun st => ∃ (rest : S) (L u : Nat) (fo : Nat → S) (k many many' set' : Nat), st.2.1 = ((pc (tb L) m : Nat) : Int) ∧ st.2.2.1 = u ∧ st.2.2.2 = many ∧ 1 ≤ many ∧ many ≤ 11 ∧ Inv st.1 rest L u fo k many' set' ∧ ((many' = many ∧ set' = 1) ∨ (pc (tb L) m < 2 * many' ∧ many' ≤ many))) (fun st => (30 - st.2.2.2).toNat) (fun M' => ∃ (rest : S) (L u : Nat) (fo : Nat → S) (k many set : Nat), Inv M' rest L u fo k many set ∧ pc (tb L) m < 2 * many) (fun st hst => by
    obtain ⟨M1, pl, ui, mi⟩ := st
    obtain ⟨rest, L, u, fo, k, many, many', set', e1, e2, e3, hm1', hm11, hI, hcase⟩ := hst
    dsimp only at e1 e2 e3 hI
    subst e1
    subst e2
    subst e3
    have hpl := hpcm (tb L)
    unfold l_X2_joinPieces_15
    dsimp only
    rw [gI_s (by omega) (by omega), bs]
    by_cases hstop : ((pc (tb L) m : Nat) : Int) < 2 * many
    · rw [if_pos hstop]
      refine Or.inl ⟨_, rfl, rest, L, u, fo, k, many', set', hI, ?_⟩
      rcases hcase with ⟨z, -⟩ | ⟨z, -⟩
      · omega
      · exact z
    · rw [if_neg hstop]
      rcases hcase with ⟨z1, z2⟩ | ⟨z1, z2⟩
      · subst z1
        subst z2
        obtain ⟨M2, rest2, L2, u2, fo2, k2, set2, e, hI2, hor⟩ := hin hI hm1' hm11
        rw [e, bs]
        rcases hor with z | z
        · refine Or.inr ⟨_, rfl, ⟨rest2, L2, u2, fo2, k2, many' + 1, many' + 1, 1, rfl, rfl, by dsimp only; omega, by omega, by omega, ?_, Or.inl ⟨rfl, rfl⟩⟩, by dsimp only; omega⟩
          rw [hInv] at hI2 ⊢
          obtain ⟨x1, x2, x3, x4, x5, x6, x7⟩ := hI2
          exact ⟨x1, x2, x3, x4, x5, rci_next P K hp hφ x6 z, x7⟩
        · exact Or.inr ⟨_, rfl, ⟨rest2, L2, u2, fo2, k2, many' + 1, many', set2, rfl, rfl, by dsimp only; omega, by omega, by omega, hI2, Or.inr ⟨z, by omega⟩⟩, by dsimp only; omega⟩
      · omega) n (M, (m : Int), 0, 1) ⟨G, 2 ^ m - 1, 0, fun _ => 0, 0, 1, 1, 1, by
      dsimp only
      have : pc (tb (2 ^ m - 1)) m = m := by
        have htb : ∀ i, i < m → tb (2 ^ m - 1) i = true := fun i hi => by unfold tb; rw [Nat.testBit_two_pow_sub_one]; exact decide_eq_true hi
        have : ∀ m', m' ≤ m → pc (tb (2 ^ m - 1)) m' = m' := fun m' => by
          induction m' with
          | zero => intro _; rfl
          | succ m' ih => intro hm'; simp only [pc]; rw [ih (by omega), htb m' (by omega)]; rfl
        exact this m (Nat.le_refl _)
      rw [this], rfl, rfl, by omega, by omega, hinit, Or.inl ⟨rfl, rfl⟩⟩ (by dsimp only; omega)
  obtain ⟨hkF, hr0, hrG, hnr2⟩ := hk10 hI
  rw [hInv] at hI
  obtain ⟨k1, k2, c28a, hFR, hso, hrci, hLu, hu2, hpcL⟩ := hI
  have hirzr := rci_end P K hp hφ hirr hcop hrci hGlp hfin hnr2
  have hrne : ∀ i, i < k → fo i ≠ rest := fun i hi e => by
    have h5 : dv (rest * rest) G := by
      obtain ⟨y, hy⟩ := pdn_mem fo hi
      refine ⟨y, ?_⟩
      rw [← hrci.2.1, hy, e]; grind
    exact hGs rest hirzr h5
  obtain ⟨M25, j, e25, hok25, hc25, hjk, hFR25, hso25, -⟩ := c_add P k1 (a := 28) ⟨rfl, rfl⟩ (by omega) (k := k) (by omega) hFR hso c28a hrne hn
  refine ⟨M25, k + 1, ins fo j rest, ?_, hok25, chF_mono (chF_trans k2 hc25) (fun x hx => by simp [RSZ, FND] at hx ⊢; omega), hFR25, fun i hi => ?_, by rw [ins_pdn fo rest hjk]; exact hrci.2.1, hso25, by omega⟩
  · unfold f_X2_joinPieces
    rw [hPC.1, hLo, bs, e25, bs]
  · rcases (ins_mem hjk rest (ins fo j rest i)).mp ⟨i, hi, rfl⟩ with ⟨l, hl, e⟩ | e
    · rw [← e]; exact hrci.1 l hl
    · rw [e]; exact hirzr
theorem k27 : kd 27 = 1 ∧ kn 27 = 10 := ⟨rfl, rfl⟩
theorem c_countM {S : Type} [Lean.Grind.CommRing S] {co : S → Nat → Int} (P : isPol co) {F : S} (hF0 : nu co F ≠ 0) (hNF : nu co F ≤ 11) (hXF : ∀ i, nz (co F i) ≤ 9999) {k : Nat} (hk : k ≤ 10) {fo : Nat → S} (hirz : ∀ j, j < k → irz co (fo j)) (hdv : ∀ j, j < k → dv (fo j) F) (hinj : ∀ i j, i < j → j < k → fo i ≠ fo j) {M : MI} (hM : ok M) {a : Nat} (ha : row a) (cF : CZ co M a F) (hFR : FRc co M k fo) {n : Nat} (hn : 18446744073709551616 ≤ n) :
    ∃ (M' : MI) (es : Nat → Nat), f_X2_countMultiplicities n a M = some M' ∧ ok M' ∧ chF [18, 19, 28] M M' ∧ M'.2 5 2 = M.2 5 2 ∧ FRc co M' k fo ∧ ∀ i, i < k → M'.2 27 i = (es i : Nat) ∧ EX (fo i) F (es i) := by
  have hFne : F ≠ 0 := fun z => hF0 ((nu_zero P).mpr z)
  have r28 : row 28 := ⟨rfl, rfl⟩
  have r18 : row 18 := ⟨rfl, rfl⟩
  obtain ⟨M1, e1, hok1, hc1, c1⟩ := c_copyZ hM ha r28 cF
  -- one factor
  have hone : ∀ {Ma : MI} {w F1 : S} {i : Nat}, i < k → ok Ma → chF [18, 19, 28] M Ma → Ma.2 5 2 = k → FRc co Ma k fo → F = w * F1 → ¬ dv (fo i) w → CZ co Ma 28 F1 → ∃ (Mb : MI) (e : Nat) (F2 : S), lpF (l_X2_countMultiplicities_20 n i) n (Ma, 0) = some (Mb, (e : Int)) ∧ ok Mb ∧ chJ [18, 19, 28] Ma Mb ∧ F1 = fo i ^ e * F2 ∧ ¬ dv (fo i) F2 ∧ CZ co Mb 28 F2 := fun {Ma w F1 i} hi hokA hchA h52 hFRA hFw hwn c28 => by
    have ri : row (159 + i) := row_i (by omega)
    have hπ := hirz i hi
    obtain ⟨⟨Mb, ei⟩, hL, e, F2, x1, x2, x3, x4, x5, x6⟩ := lp_do (step := l_X2_countMultiplicities_20 n i) (fun st => ∃ (e : Nat) (F2 : S), st.2 = e ∧ ok st.1 ∧ chJ [18, 19, 28] Ma st.1 ∧ F1 = fo i ^ e * F2 ∧ CZ co st.1 28 F2 ∧ e + nu co F2 ≤ nu co F1) (fun st => (20 - st.2).toNat) (fun r => ∃ (e : Nat) (F2 : S), r.2 = e ∧ ok r.1 ∧ chJ [18, 19, 28] Ma r.1 ∧ F1 = fo i ^ e * F2 ∧ ¬ dv (fo i) F2 ∧ CZ co r.1 28 F2) (fun st hst => by
      obtain ⟨Mx, y⟩ := st
      obtain ⟨e, F2, hy, k1, k2, hF2, c2, heN⟩ := hst
      dsimp only at hy k1 k2 c2
      subst hy
      have hF1F : dv F1 F := ⟨w, by rw [hFw]; grind⟩
      have hF2F : dv F2 F := ⟨w * fo i ^ e, by rw [hFw, hF2]; grind⟩
      obtain ⟨-, nF1, -⟩ := z_bd P hF0 hNF hXF hF1F
      obtain ⟨bF, nF, nF0⟩ := z_bd P hF0 hNF hXF hF2F
      obtain ⟨bi, -, -⟩ := z_bd P hF0 hNF hXF (hdv i hi)
      unfold l_X2_countMultiplicities_20
      dsimp only
      rw [gI_s (by omega) (by omega), bs]
      by_cases h10 : (10 : Int) ≤ e
      · rw [if_pos h10]
        refine Or.inl ⟨_, rfl, e, F2, rfl, k1, k2, hF2, fun hd => ?_, c2⟩
        have := z_le P hd (fun z => nF0 ((nu_zero P).mpr z))
        have := hπ.2.1
        omega
      · have cfo : CZ co Mx (159 + i) (fo i) := CZ_ch (hFRA.2 i hi) k2 (by simp; omega)
        obtain ⟨My, hoky, hcy, hd⟩ := c_divide P k1 (a := 28) (b := 159 + i) r28 ri (by decide) (by decide) (by omega) (by omega) c2 cfo (fun j => by have := bi j; omega) (fun j => by have := bF j; omega) hn
        rw [if_neg h10, oA26 rfl (by omega), bs]
        rcases hd with ⟨ed, -, qq, hqq, cqq, -⟩ | ⟨ed, hno⟩
        · obtain ⟨Mz, ez, hokz, hcz, cz⟩ := c_copyZ hoky r18 r28 cqq
          rw [ed, bs]
          dsimp only
          rw [gI_s (by omega) (by omega), bs, if_neg (by omega), ez, bs]
          have hq0 : qq ≠ 0 := fun z => nF0 ((nu_zero P).mpr (by rw [hqq, z]; grind))
          have hNm := nu_mul P int_D (irz_ne P hπ) hq0
          rw [← hqq] at hNm
          have := hπ.2.1
          exact Or.inr ⟨_, rfl, ⟨e + 1, qq, by dsimp only; omega, hokz, chJ_mono (chJ_trans k2 (chJ_trans hcy hcz)) (fun x hx => by simp at hx ⊢; omega), by rw [hF2, hqq, pw_succ]; grind, cz, by omega⟩, by dsimp only; omega⟩
        · rw [ed, bs]
          dsimp only
          rw [gI_s (by omega) (by omega), bs, if_pos rfl]
          refine Or.inl ⟨_, rfl, e, F2, rfl, hoky, chJ_mono (chJ_trans k2 hcy) (fun x hx => by simp at hx ⊢; omega), hF2, fun hd => ?_, CZ_ch c2 hcy (by simp)⟩
          rcases hno with z | z
          · have := hπ.2.1; omega
          · obtain ⟨y, hy⟩ := hd
            have hyF : dv y F := dv_trans ⟨fo i, by rw [hy]; grind⟩ hF2F
            obtain ⟨by1, -, -⟩ := z_bd P hF0 hNF hXF hyF
            exact z ⟨y, hy, fun j => by have := by1 j; omega⟩) n (Ma, 0) ⟨0, F1, rfl, hokA, chJ_refl _ _, by rw [pw_zero]; grind, c28, by omega⟩ (by dsimp only; omega)
    dsimp only at x1 x2 x3 x6
    subst x1
    exact ⟨Mb, e, F2, hL, x2, x3, x4, x5, x6⟩
  obtain ⟨M', hL, h1, h2, h3, h4, es, h5⟩ := lp_do (step := l_X2_countMultiplicities_10 n) (fun st => ok st.1 ∧ chF [18, 19, 28] M st.1 ∧ st.1.2 5 2 = k ∧ FRc co st.1 k fo ∧ ∃ (i : Nat) (w F1 : S) (es : Nat → Nat), st.2 = i ∧ i ≤ k ∧ F = w * F1 ∧ CZ co st.1 28 F1 ∧ (∀ j, i ≤ j → j < k → ¬ dv (fo j) w) ∧ ∀ j, j < i → st.1.2 27 j = (es j : Nat) ∧ EX (fo j) F (es j)) (fun st => (20 - st.2).toNat) (fun M' => ok M' ∧ chF [18, 19, 28] M M' ∧ M'.2 5 2 = k ∧ FRc co M' k fo ∧ ∃ es : Nat → Nat, ∀ i, i < k → M'.2 27 i = (es i : Nat) ∧ EX (fo i) F (es i)) (fun st hst => by
    obtain ⟨Ma, y⟩ := st
    obtain ⟨k1, k2, k3, hFRa, i, w, F1, es, hy, hik, hFw, c28, hw, hes⟩ := hst
    dsimp only at k1 k2 k3 hFRa hy c28 hes
    subst hy
    unfold l_X2_countMultiplicities_10
    dsimp only
    rw [k3, gI_s (by omega) (by omega), bs]
    by_cases hle : (k : Int) ≤ i
    · rw [if_pos hle]
      exact Or.inl ⟨_, rfl, k1, k2, k3, hFRa, es, fun j hj => hes j (by omega)⟩
    · obtain ⟨Mb, e, F2, eb, hokb, hcb, hF2, hnd, c2⟩ := hone (i := i) (by omega) k1 k2 k3 hFRa hFw (hw i (by omega) (by omega)) c28
      have heb : e ≤ 20 := by
        have h6 : dv (fo i ^ e) F := ⟨w * F2, by rw [hFw, hF2]; grind⟩
        have h7 := z_le P h6 hFne
        have h8 : ∀ e, e + 1 ≤ nu co (fo i ^ e) := fun e => by
          induction e with
          | zero => rw [pw_zero, nu_eq P (n := 1) (fun i hi => by rw [p_one P, if_neg (by omega)]) (fun _ => by rw [p_one P, if_pos (by omega)]; decide)]; omega
          | succ e ih =>
            have h9 := nu_mul P int_D (prim_ne P (prim_pw P (hirz i (by omega)).1 e)) (irz_ne P (hirz i (by omega)))
            rw [pw_succ]
            have := (hirz i (by omega)).2.1
            omega
        have := h8 e
        omega
      rw [if_neg hle, eb, bs]
      dsimp only
      rw [osI_n (k := 27) i rfl rfl (show i < 10 by omega), bs]
      refine Or.inr ⟨_, rfl, ⟨ok_oI hokb (by omega), ?_, ?_, ⟨?_, fun j hj => (CZ_ch (hFRa.2 j hj) hcb (by simp; omega) : CZ co Mb (159 + j) (fo j))⟩, i + 1, w * fo i ^ e, F2, fun j => if j = i then e else es j, by dsimp only; omega, by omega, by rw [hFw, hF2]; grind, c2, fun j hj1 hj2 => ?_, fun j hj => ?_⟩, by dsimp only; omega⟩
      · exact chF_mono (chF_trans k2 (chF_trans (chF_of hcb) (show chF [] Mb (oI Mb 27 i (e : Int)) from ⟨fun _ _ _ => rfl, fun q x hq _ => by rw [oI_2, if_neg (fun z => hq z.1)]⟩))) (fun x hx => by simp at hx ⊢; omega)
      · dsimp only; rw [oI_2, if_neg (by omega), hcb.1]; exact k3
      · dsimp only; rw [oI_2, if_neg (by omega), hcb.1]; exact k3
      · refine ndv_mul P (hirz j hj2) (hw j (by omega) hj2) (ndv_pw P (hirz j hj2) (fun hd => ?_) e)
        have := irz_eq P (hirz j hj2) (hirz i (by omega)) hd
        exact hinj i j (by omega) hj2 this.symm
      · dsimp only
        by_cases z : j = i
        · rw [if_pos z, z, oI_2, if_pos ⟨rfl, rfl⟩]
          exact ⟨rfl, w * F2, by rw [hFw, hF2]; grind, ndv_mul P (hirz i (by omega)) (hw i (by omega) (by omega)) hnd⟩
        · rw [if_neg z, oI_2, if_neg (fun x => z x.2), hcb.1]
          exact hes j (by omega)) n (M1, 0) ⟨hok1, chF_mono (chF_of hc1) (fun x hx => by simp at hx ⊢; omega), by rw [hc1.1]; exact hFR.1, ⟨by dsimp only; rw [hc1.1]; exact hFR.1, fun i hi => CZ_ch (hFR.2 i hi) hc1 (by simp; omega)⟩, 0, 1, F, fun _ => 0, rfl, by omega, by grind, c1, fun j _ hj hd => by
      have hone : nu co (1 : S) = 1 := nu_eq P (fun i hi => by rw [p_one P, if_neg (by omega)]) (fun _ => by rw [p_one P, if_pos (by omega)]; decide)
      have := z_le P hd (fun z => by rw [(nu_zero P).mpr z] at hone; omega)
      have := (hirz j hj).2.1
      omega, fun j hj => absurd hj (by omega)⟩ (by dsimp only; omega)
  refine ⟨M', es, ?_, h1, h2, by rw [h3]; exact hFR.1.symm, h4, h5⟩
  unfold f_X2_countMultiplicities
  rw [e1, bs, hL, bs]
end MClsE
