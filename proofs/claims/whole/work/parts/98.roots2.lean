/-! findRoots, root, roots of the reference -/
section MRoots2
theorem rt_sc {S : Type} [Lean.Grind.CommRing S] {co : S → Nat → Int} (P : isPol co) {F0 F : S} {d : Int} (hd : d ≠ 0) (h : F0 = mo P d 0 * F) (x : Int × Int) : rt P F0 x ↔ rt P F x := by
  constructor
  · rintro ⟨h1, h2, h3⟩
    refine ⟨h1, h2, ?_⟩
    have hi := lin1_irz P h1 h2
    rw [h] at h3
    rcases irz_dv P hi h3 with z | z
    · exact absurd z (no_irz1 P (mo_N P 0 hd) hi)
    · exact z
  · rintro ⟨h1, h2, h3⟩
    exact ⟨h1, h2, by rw [h]; exact dv_mull _ h3⟩
def dne (b a : Nat) (x : Int × Int) : Prop := x.1 = 0 ∨ x.2 < b ∨ (x.2 = b ∧ x.1.natAbs < a)
theorem s_rootsI {S : Type} [Lean.Grind.CommRing S] {co : S → Nat → Int} (P : isPol co) {F : S} (hF0 : nu co F ≠ 0) (hNF : nu co F ≤ 11) (hXF : ∀ i, nz (co F i) ≤ 9999) {low : Nat} (hlow : ∀ i, i < low → co F i = 0) (hlow2 : co F low ≠ 0) {last head b : Nat} (hlast : last = (co F low).natAbs) (hhead : (head : Int) = co F (nu co F - 1)) (hb1 : 1 ≤ b) (hbh : b ≤ head) {M0 M : MI} (hkr : kr8 M0 M) {k : Nat} {s : Nat → Int × Int} (h : RI P F M k s) (hD : ∀ x, (∃ i, i < k ∧ s i = x) ↔ (rt P F x ∧ dne b 1 x)) {n : Nat} (hn : 18446744073709551616 ≤ n) :
    ∃ M' k' s', lpF (l_X8_findRoots_93 n last head b) n (M, 1) = some M' ∧ kr8 M0 M' ∧ RI P F M' k' s' ∧ ∀ x, (∃ i, i < k' ∧ s' i = x) ↔ (rt P F x ∧ dne (b + 1) 1 x) := by
  have hFne : F ≠ 0 := fun z => hF0 ((nu_zero P).mpr z)
  have hl9 := hXF low
  have hh9 := hXF (nu co F - 1)
  unfold nz at hl9 hh9
  have hdb : ∀ x, rt P F x → x.2 = b → b ∣ head := fun x hx e => by
    have h1 := rt_head P hFne hx
    rw [e, ← hhead] at h1
    exact Int.natCast_dvd_natCast.mp h1
  have hda : ∀ x, rt P F x → x.1 ≠ 0 → x.1.natAbs ∣ last := fun x hx e => by
    have h1 := rt_tail P hFne hlow hlow2 hx e
    rw [hlast]
    exact Int.natAbs_dvd_natAbs.mpr h1
  have hnext : ∀ x, rt P F x → (dne b (last + 1) x ↔ dne (b + 1) 1 x) := fun x hx => by
    unfold dne
    have h0 := hx.1
    constructor
    · rintro (z | z | z)
      · exact Or.inl z
      · exact Or.inr (Or.inl (by omega))
      · exact Or.inr (Or.inl (by omega))
    · rintro (z | z | z)
      · exact Or.inl z
      · by_cases y : x.1 = 0
        · exact Or.inl y
        · have := Nat.le_of_dvd (by omega) (hda x hx y)
          rcases Int.lt_or_le x.2 b with w | w
          · exact Or.inr (Or.inl w)
          · exact Or.inr (Or.inr ⟨by omega, by omega⟩)
      · exact Or.inl (by omega)
  obtain ⟨M', hL, h1, k', s', h2, h3⟩ := lp_do (step := l_X8_findRoots_93 n last head b) (fun st => kr8 M0 st.1 ∧ ∃ (a k : Nat) (s : Nat → Int × Int), st.2 = a ∧ 1 ≤ a ∧ a ≤ last + 1 ∧ RI P F st.1 k s ∧ ∀ x, (∃ i, i < k ∧ s i = x) ↔ (rt P F x ∧ dne b a x)) (fun st => ((last : Int) + 2 - st.2).toNat) (fun M' => kr8 M0 M' ∧ ∃ k' s', RI P F M' k' s' ∧ ∀ x, (∃ i, i < k' ∧ s' i = x) ↔ (rt P F x ∧ dne (b + 1) 1 x)) (fun st hst => by
    obtain ⟨M1, y⟩ := st
    obtain ⟨k1, a, k, s, hy, ha1, hal, hRI, hD⟩ := hst
    dsimp only at k1 hy hRI
    subst hy
    unfold l_X8_findRoots_93
    dsimp only
    rw [gI_s (by omega) (by omega), bs]
    by_cases hlt : (last : Int) < a
    · rw [if_pos hlt]
      have e : a = last + 1 := by omega
      refine Or.inl ⟨_, rfl, k1, k, s, hRI, fun x => ?_⟩
      rw [hD x, e]
      constructor
      · rintro ⟨z1, z2⟩; exact ⟨z1, (hnext x z1).mp z2⟩
      · rintro ⟨z1, z2⟩; exact ⟨z1, (hnext x z1).mpr z2⟩
    · have er : orI (head : Int) b = some ((head % b : Nat) : Int) := by
        unfold orI
        rw [if_pos ⟨by omega, by omega, by omega, by omega⟩, tmod_nn (by omega)]
        exact congrArg some (Int.natCast_emod head b).symm
      have hmd := Nat.mod_lt head (show 0 < b by omega)
      rw [if_neg hlt, er, bs, gI_s (by omega) (by omega), bs]
      by_cases hb0 : ((head % b : Nat) : Int) = 0
      · have er2 : orI (last : Int) a = some ((last % a : Nat) : Int) := by
          unfold orI
          rw [if_pos ⟨by omega, by omega, by omega, by omega⟩, tmod_nn (by omega)]
          exact congrArg some (Int.natCast_emod last a).symm
        have hmd2 := Nat.mod_lt last (show 0 < a by omega)
        rw [if_pos hb0, er2, bs, gI_s (by omega) (by omega), bs]
        have hskip : (∀ x, rt P F x → ¬ (x.2 = b ∧ x.1.natAbs = a)) → ∀ x, (∃ i, i < k ∧ s i = x) ↔ (rt P F x ∧ dne b (a + 1) x) := fun hno x => by
          rw [hD x]
          constructor
          · rintro ⟨z1, z2⟩
            refine ⟨z1, ?_⟩
            unfold dne at z2 ⊢
            omega
          · rintro ⟨z1, z2⟩
            refine ⟨z1, ?_⟩
            have := hno x z1
            unfold dne at z2 ⊢
            omega
        by_cases ha0 : ((last % a : Nat) : Int) = 0
        · rw [if_pos ha0, gI_s (by omega) (by omega), bs, gI_s (by omega) (by omega), bs, s_common (by omega) (by omega) hn, bs, Int.natAbs_natCast, Int.natAbs_natCast]
          have hgle : Nat.gcd a b ≤ a := Nat.gcd_le_left _ (by omega)
          rw [gJ_s (by omega) (by omega), bs]
          by_cases hg : ((Nat.gcd a b : Nat) : Int) = 1
          · rw [if_pos hg]
            have hg1 : Nat.gcd a b = 1 := by omega
            have hnew1 : ∀ i, i < k → s i ≠ ((a : Int), (b : Int)) := fun i hi e => by
              have := ((hD (s i)).mp ⟨i, hi, rfl⟩).2
              rw [e] at this
              unfold dne at this
              dsimp only at this
              omega
            obtain ⟨M2, k2, s2, e2, hkr2, hRI2, hm2⟩ := s_addRoot P hF0 hNF hXF (u := a) (v := b) (by unfold nz; omega) (by omega) (by rw [Int.natAbs_natCast, Int.natAbs_natCast]; exact hg1) hRI hnew1 hn
            have hnew2 : ∀ i, i < k2 → s2 i ≠ (-(a : Int), (b : Int)) := fun i hi e => by
              rcases (hm2 (s2 i)).mp ⟨i, hi, rfl⟩ with z | z
              · have := ((hD (s2 i)).mp z).2
                rw [e] at this
                unfold dne at this
                dsimp only at this
                omega
              · have := z.1
                rw [e] at this
                have := congrArg Prod.fst this
                dsimp only at this
                omega
            obtain ⟨M3, k3, s3, e3, hkr3, hRI3, hm3⟩ := s_addRoot P hF0 hNF hXF (u := -(a : Int)) (v := b) (by unfold nz; omega) (by omega) (by rw [Int.natAbs_neg, Int.natAbs_natCast, Int.natAbs_natCast]; exact hg1) hRI2 hnew2 hn
            rw [e2, bs, e3, bs, bs]
            refine Or.inr ⟨_, rfl, ⟨kr8_trans k1 (kr8_trans hkr2 hkr3), a + 1, k3, s3, by dsimp only; omega, by omega, by omega, hRI3, fun x => ?_⟩, by dsimp only; omega⟩
            rw [hm3 x, hm2 x, hD x]
            constructor
            · rintro ((⟨z1, z2⟩ | ⟨z1, z2⟩) | ⟨z1, z2⟩)
              · refine ⟨z1, ?_⟩
                unfold dne at z2 ⊢
                omega
              · refine ⟨z2, ?_⟩
                rw [z1]; unfold dne; dsimp only; omega
              · refine ⟨z2, ?_⟩
                rw [z1]; unfold dne; dsimp only; omega
            · rintro ⟨z1, z2⟩
              by_cases y : x.2 = b ∧ x.1.natAbs = a
              · rcases Int.lt_or_le x.1 0 with w | w
                · exact Or.inr ⟨Prod.ext (by dsimp only; omega) y.1, z1⟩
                · exact Or.inl (Or.inr ⟨Prod.ext (by dsimp only; omega) y.1, z1⟩)
              · refine Or.inl (Or.inl ⟨z1, ?_⟩)
                unfold dne at z2 ⊢
                omega
          · rw [if_neg hg, bs]
            refine Or.inr ⟨_, rfl, ⟨k1, a + 1, k, s, by dsimp only; omega, by omega, by omega, hRI, hskip (fun x z1 z2 => hg ?_)⟩, by dsimp only; omega⟩
            have := z1.2.1
            rw [z2.2, z2.1, Int.natAbs_natCast] at this
            omega
        · rw [if_neg ha0, bs]
          refine Or.inr ⟨_, rfl, ⟨k1, a + 1, k, s, by dsimp only; omega, by omega, by omega, hRI, hskip (fun x z1 z2 => ha0 ?_)⟩, by dsimp only; omega⟩
          have := hda x z1 (by omega)
          rw [z2.2] at this
          have := Nat.mod_eq_zero_of_dvd this
          omega
      · rw [if_neg hb0]
        refine Or.inl ⟨_, rfl, k1, k, s, hRI, fun x => ?_⟩
        rw [hD x]
        have hno : rt P F x → x.2 ≠ b := fun z1 e => hb0 (by have := Nat.mod_eq_zero_of_dvd (hdb x z1 e); omega)
        constructor
        · rintro ⟨z1, z2⟩
          refine ⟨z1, ?_⟩
          unfold dne at z2 ⊢
          omega
        · rintro ⟨z1, z2⟩
          refine ⟨z1, ?_⟩
          have := hno z1
          unfold dne at z2 ⊢
          omega) n (M, 1) ⟨hkr, 1, k, s, rfl, by omega, by omega, h, hD⟩ (by dsimp only; omega)
  exact ⟨M', k', s', hL, h1, h2, h3⟩
theorem s_findRoots {S : Type} [Lean.Grind.CommRing S] {co : S → Nat → Int} (P : isPol co) {M : MI} (hM : ok M) {F0 : S} (r0 : RZ co M 0 F0) (hF0 : nu co F0 ≠ 0) (hNF : nu co F0 ≤ 11) (hXF : ∀ i, nz (co F0 i) ≤ 9999) {n : Nat} (hn : 18446744073709551616 ≤ n) : ∃ M' k s, f_X8_findRoots n M = some M' ∧ ok M' ∧ kr8 M M' ∧ RR M' k s ∧ RSet P F0 k s ∧ k ≤ 10 ∧ ∀ i, i < k → nz (s i).1 ≤ 9999 ∧ (s i).2 ≤ 9999 := by
  have hok1 : ok (oI M 36 15 0) := ok_oI hM (by omega)
  obtain ⟨c, M3, F, e3, hok3, hc3, r3, ⟨d, hd, hF0F⟩, nF, xF, hcs, -⟩ := s_prim01 P hok1 (s := 0) (by omega) (RZ_fl r0 15 0) hNF hXF hn
  have e3' : f_X8_primitive n 0 (oI M 36 15 0) = some (c, M3) := e3
  have hkr3 : kr8 M M3 := kr8_trans (show kr8 M (oI M 36 15 0) from ⟨fun _ _ _ => rfl, fun k i _ _ _ h => by rw [oI_2, if_neg h]⟩) (kr8_chg hc3)
  have h15 : M3.2 36 15 = 0 := by rw [hc3.2.1 36 15 (by omega), oI_2, if_pos ⟨rfl, rfl⟩]
  have d4 : odI M3 42 0 = some ((nu co F : Int) - 1) := by rw [odI_n (i := 0) 0 rfl rfl (by rw [k42.2]; omega)]; exact congrArg some r3.1
  have hFne : F ≠ 0 := fun z => by rw [(nu_zero P).mpr z] at nF; omega
  have hset : ∀ {k : Nat} {s : Nat → Int × Int}, RSet P F k s → RSet P F0 k s := fun {k s} h => ⟨fun i hi => (rt_sc P hd hF0F _).mpr (h.1 i hi), fun x hx => h.2.1 x ((rt_sc P hd hF0F x).mp hx), h.2.2⟩
  have hRI0 : RI P F M3 0 (fun _ => (0, 0)) := ⟨hok3, r3, ⟨h15, fun i hi => absurd hi (by omega)⟩, fun i hi => absurd hi (by omega), fun a b _ hb => absurd hb (by omega)⟩
  by_cases h1 : (1 : Int) ≤ (nu co F : Int) - 1
  · -- the lowest coefficient that isn't 0
    obtain ⟨low, hlow2, hlow⟩ := least (p := fun i => co F i ≠ 0) ⟨nu co F - 1, nu_top P F (by omega)⟩
    have hlow : ∀ i, i < low → co F i = 0 := fun i hi => Classical.byContradiction fun h => hlow i hi h
    have hlN : low < nu co F := nu_gt P hlow2
    have hL24 : lpF (l_X8_findRoots_24 M3) n 0 = some (low : Int) := lp_for (step := l_X8_findRoots_24 M3) (fun k => ((k : Nat) : Int)) (low : Int) low n (fun k hk => by
      have hw : M3.1 41 (0 + k) = co F k := by rw [← r3.2 k (by omega)]
      unfold l_X8_findRoots_24
      rw [odJ_n (0 + k) rfl (by omega) (by rw [k41.2]; omega), bs, hw, hlow k hk, gJ_s (by omega) (by omega), bs, if_pos rfl]
      rfl) (by
      have hw : M3.1 41 (0 + low) = co F low := by rw [← r3.2 low hlN]
      have := nz_le.mp (xF low)
      unfold l_X8_findRoots_24
      rw [odJ_n (0 + low) rfl (by omega) (by rw [k41.2]; omega), bs, hw, gJ_s (by omega) (by omega), bs, if_neg hlow2]) (by omega)
    have hlc : 0 < co F (nu co F - 1) := by
      have hs := sc_spec P hF0
      obtain ⟨hs0, -, hall⟩ := hs
      have := s_primitiveZ P hok1 (s := 0) (by omega) (RZ_fl r0 15 0) (by omega) hF0 (fun i => by have := nz_le.mp (hXF i); omega) hn
      obtain ⟨M3', F', e', -, -, r', -, -, hpos, hN', -⟩ := this
      rw [e3] at e'
      have e'' := Option.some.inj e'
      have eM : M3' = M3 := (Prod.ext_iff.mp e'').2.symm
      rw [eM] at r'
      have hFF : F' = F := p_ext P (fun i => by
        by_cases z : i < nu co F
        · rw [← r3.2 i z, ← r'.2 i (by omega)]
        · rw [nu_hi P F (by omega), nu_hi P F' (by omega)])
      rw [hFF] at hpos
      exact hpos
    have hl9 := nz_le.mp (xF low)
    have hh9 := nz_le.mp (xF (nu co F - 1))
    -- the root 0
    have h10 : ∃ M10 k s, (Option.bind (gI (low : Int) 0) fun _ => if (low : Int) ≤ 0 then some M3 else Option.bind (f_X8_addRoot n (0) (1) M3) fun v9 => some v9) = some M10 ∧ kr8 M M10 ∧ RI P F M10 k s ∧ ∀ x, (∃ i, i < k ∧ s i = x) ↔ (rt P F x ∧ dne 1 1 x) := by
      by_cases hz : (low : Int) ≤ 0
      · refine ⟨M3, 0, fun _ => (0, 0), by rw [gI_s (by omega) (by omega), bs, if_pos hz], hkr3, hRI0, fun x => ?_⟩
        constructor
        · rintro ⟨i, hi, -⟩; omega
        · rintro ⟨z1, z2⟩
          exfalso
          have h0 := z1.1
          unfold dne at z2
          have hx : x.1 = 0 := by omega
          have := (rt_zero P z1 hx).2
          rw [show low = 0 by omega] at hlow2
          exact hlow2 this
      · obtain ⟨M10, k, s, e10, hkr10, hRI10, hm10⟩ := s_addRoot P (by omega) (by omega) xF (u := 0) (v := 1) (by decide) (by omega) (by decide) hRI0 (fun i hi => absurd hi (by omega)) hn
        refine ⟨M10, k, s, by rw [gI_s (by omega) (by omega), bs, if_neg hz, e10, bs], kr8_trans hkr3 hkr10, hRI10, fun x => ?_⟩
        rw [hm10 x]
        constructor
        · rintro (⟨i, hi, -⟩ | ⟨z1, z2⟩)
          · omega
          · exact ⟨z2, Or.inl (by rw [z1])⟩
        · rintro ⟨z1, z2⟩
          have h0 := z1.1
          unfold dne at z2
          have hx : x.1 = 0 := by omega
          exact Or.inr ⟨(rt_zero P z1 hx).1, z1⟩
    obtain ⟨M10, k0, s0, e10, hkr10, hRI10, hD10⟩ := h10
    obtain ⟨last, hlast⟩ : ∃ last : Nat, last = (co F low).natAbs := ⟨_, rfl⟩
    obtain ⟨head, hhead⟩ : ∃ head : Nat, (head : Int) = co F (nu co F - 1) := ⟨(co F (nu co F - 1)).toNat, by omega⟩
    obtain ⟨M33, hL, h2, k, s, h3, h4⟩ := lp_do (step := l_X8_findRoots_84 n last head) (fun st => kr8 M st.1 ∧ ∃ (b k : Nat) (s : Nat → Int × Int), st.2 = b ∧ 1 ≤ b ∧ b ≤ head + 1 ∧ RI P F st.1 k s ∧ ∀ x, (∃ i, i < k ∧ s i = x) ↔ (rt P F x ∧ dne b 1 x)) (fun st => ((head : Int) + 2 - st.2).toNat) (fun M' => kr8 M M' ∧ ∃ k s, RI P F M' k s ∧ ∀ x, (∃ i, i < k ∧ s i = x) ↔ rt P F x) (fun st hst => by
      obtain ⟨M1, y⟩ := st
      obtain ⟨k1, b, k, s, hy, hb1, hbh, hRI, hD⟩ := hst
      dsimp only at k1 hy hRI
      subst hy
      unfold l_X8_findRoots_84
      dsimp only
      rw [gI_s (by omega) (by omega), bs]
      by_cases hlt : (head : Int) < b
      · rw [if_pos hlt]
        refine Or.inl ⟨_, rfl, k1, k, s, hRI, fun x => ?_⟩
        rw [hD x]
        refine ⟨fun z => z.1, fun z => ⟨z, ?_⟩⟩
        have h5 := Int.le_of_dvd hlc (rt_head P hFne z)
        unfold dne
        omega
      · obtain ⟨M2, k2, s2, e2, hkr2, hRI2, hD2⟩ := s_rootsI P (by omega) (by omega) xF hlow hlow2 hlast hhead hb1 (by omega) k1 hRI hD hn
        rw [if_neg hlt, e2, bs]
        exact Or.inr ⟨_, rfl, ⟨hkr2, b + 1, k2, s2, by dsimp only; omega, by omega, by omega, hRI2, hD2⟩, by dsimp only; omega⟩) n (M10, 1) ⟨hkr10, 1, k0, s0, rfl, by omega, by omega, hRI10, hD10⟩ (by dsimp only; omega)
    obtain ⟨hok33, r33, hRR33, hrt33, hso33⟩ := id h3
    have hne : ∀ i j, i < j → j < k → s i ≠ s j := fun i j hij hj e => by have := hso33 i j hij hj; rw [e] at this; exact rlt_irr _ this
    have hk10 : k ≤ 10 := by
      have := rt_cnt P hFne (fun i hi => (hrt33 i hi).1) hne
      omega
    refine ⟨M33, k, s, ?_, hok33, h2, hRR33, hset ⟨fun i hi => (hrt33 i hi).1, fun x hx => (h4 x).mpr hx, hso33⟩, hk10, fun i hi => (hrt33 i hi).2⟩
    have r10 := hRI10.2.1
    have w11 : odJ M10 41 (0 + (low : Int)) = some (co F low) := by rw [odJ_n (0 + low) rfl (by omega) (by rw [k41.2]; omega)]; exact congrArg some (by rw [← r10.2 low hlN])
    have w14 : odI M10 42 0 = some ((nu co F : Int) - 1) := by rw [odI_n (i := 0) 0 rfl rfl (by rw [k42.2]; omega)]; exact congrArg some r10.1
    have w15 : odJ M10 41 (0 + ((nu co F : Int) - 1)) = some (head : Int) := by rw [odJ_n (0 + (nu co F - 1)) rfl (by omega) (by rw [k41.2]; omega)]; refine congrArg some ?_; rw [hhead, ← r10.2 (nu co F - 1) (by omega)]
    have wab : (if co F low < 0 then - co F low else co F low) = (last : Int) := by rw [hlast]; split <;> omega
    unfold f_X8_findRoots opI
    rw [bs, e3', bs]
    dsimp only
    rw [d4, bs, gI_s (by omega) (by omega), bs, if_pos h1, hL24, bs, e10, bs, w11, bs, s_abs (by omega), bs, wab, gJ_s (by omega) (by omega), bs, w14, bs, w15, bs, gJ_s (by omega) (by omega), bs, hL, bs]
  · refine ⟨M3, 0, fun _ => (0, 0), ?_, hok3, hkr3, ⟨h15, fun i hi => absurd hi (by omega)⟩, hset ⟨fun i hi => absurd hi (by omega), fun x hx => ?_, fun a b _ hb => absurd hb (by omega)⟩, by omega, fun i hi => absurd hi (by omega)⟩
    · unfold f_X8_findRoots opI
      rw [bs, e3', bs]
      dsimp only
      rw [d4, bs, gI_s (by omega) (by omega), bs, if_neg h1]
    · exfalso
      have hN := lin1_N P x.1 (v := x.2) (by have := hx.1; omega)
      have := z_le P hx.2.2 hFne
      omega
theorem ko_kr {M M' : MI} (h : kr8 M M') : ko M M' := ⟨fun k i a _ => h.1 k i a, fun k i a => h.2 k i (by omega) (by omega) (by omega) (by omega)⟩
theorem sm8_kr {M M' : MI} (h : kr8 M M') : sm8 M M' := ⟨fun i => h.2 38 i (by omega) (by omega) (by omega) (by omega), fun i => h.2 39 i (by omega) (by omega) (by omega) (by omega), fun i => h.2 40 i (by omega) (by omega) (by omega) (by omega), h.2 36 2 (by omega) (by omega) (by omega) (by omega), h.2 36 4 (by omega) (by omega) (by omega) (by omega)⟩
theorem s_roots8 {S : Type} [Lean.Grind.CommRing S] {co : S → Nat → Int} (P : isPol co) {M : MI} (hM : ok M) (hbd : bd8 M) {a : Int} (ha : inI a) {n : Nat} (hn : 18446744073709551616 ≤ n) : ∃ r M', f_X8_roots n a M = some (r, M') ∧ ok M' ∧ ko M M' ∧ sm8 M M' ∧ ((¬ (0 ≤ a ∧ a < 80) ∧ M'.2 36 3 = 1) ∨ ((0 ≤ a ∧ a < 80) ∧ M'.2 36 3 = 0 ∧ ((po8 P M a.toNat = 0 ∧ r = -1) ∨ (po8 P M a.toNat ≠ 0 ∧ ∃ k s, RSet P (po8 P M a.toNat) k s ∧ r = (k : Nat))))) := by
  by_cases h1 : 0 ≤ a ∧ a < 80
  · obtain ⟨M1, e1, hok1, hko1, hsm1, ht1, r1⟩ := s_ld8 P hM (p := a.toNat) (by omega) hn
    rw [show ((a.toNat : Nat) : Int) = a by omega] at e1
    have nA := po8_N P M a.toNat
    have xA := po8_X P hbd (p := a.toNat) (by omega)
    obtain ⟨A, hA⟩ : ∃ A, po8 P M a.toNat = A := ⟨_, rfl⟩
    rw [hA] at nA xA r1 ⊢
    have d5 : odI M1 42 0 = some ((nu co A : Int) - 1) := by rw [odI_n (i := 0) 0 rfl rfl (by rw [k42.2]; omega)]; exact congrArg some r1.1
    by_cases h0 : nu co A = 0
    · refine ⟨-1, M1, ?_, hok1, hko1, hsm1, Or.inr ⟨h1, ht1, Or.inl ⟨(nu_zero P).mp h0, rfl⟩⟩⟩
      unfold f_X8_roots opI
      rw [s_isPoly a ha, bs, if_pos h1, gI_s (by omega) (by omega), bs, if_neg (by omega), bs, bs, th_fl, gI_s (by omega) (by omega), bs, if_pos rfl, e1, bs, d5, bs, gI_s (by omega) (by omega), bs, if_neg (by omega)]
    · obtain ⟨M2, k, s, e2, hok2, hkr2, hRR, hRS, -, -⟩ := s_findRoots P hok1 r1 h0 nA xA hn
      refine ⟨k, M2, ?_, hok2, ko_trans hko1 (ko_kr hkr2), sm8_trans hsm1 (sm8_kr hkr2), Or.inr ⟨h1, by rw [hkr2.2 36 3 (by omega) (by omega) (by omega) (by omega)]; exact ht1, Or.inr ⟨fun z => h0 ((nu_zero P).mpr z), k, s, hRS, rfl⟩⟩⟩
      unfold f_X8_roots opI
      rw [s_isPoly a ha, bs, if_pos h1, gI_s (by omega) (by omega), bs, if_neg (by omega), bs, bs, th_fl, gI_s (by omega) (by omega), bs, if_pos rfl, e1, bs, d5, bs, gI_s (by omega) (by omega), bs, if_pos (by omega), e2, bs, hRR.1]
  · refine ⟨0, oI M 36 3 1, ?_, ok_oI hM (by omega), ko_oI M (a := 36) (by omega) 3 1, sm8_fl M (by omega) (by omega) 1, Or.inl ⟨h1, th_fl M 1⟩⟩
    unfold f_X8_roots opI
    rw [s_isPoly a ha, bs, if_neg h1, gI_s (by omega) (by omega), bs, if_pos rfl, bs, bs, th_fl, gI_s (by omega) (by omega), bs, if_neg (by omega)]
theorem s_root8 {S : Type} [Lean.Grind.CommRing S] {co : S → Nat → Int} (P : isPol co) {M : MI} (hM : ok M) (hbd : bd8 M) {a b c : Int} (ha : inI a) (hb : inI b) (hc : inI c) {n : Nat} (hn : 18446744073709551616 ≤ n) : ∃ r M', f_X8_root n a b c M = some (r, M') ∧ ok M' ∧ ko M M' ∧ sm8 M M' ∧ ((¬ (0 ≤ a ∧ a < 80) ∧ M'.2 36 3 = 1) ∨ ((0 ≤ a ∧ a < 80) ∧ ∃ (k : Nat) (s : Nat → Int × Int), (po8 P M a.toNat = 0 ∧ k = 0 ∨ po8 P M a.toNat ≠ 0 ∧ RSet P (po8 P M a.toNat) k s) ∧ ((¬ (0 ≤ b ∧ b < k ∧ 0 ≤ c ∧ c ≤ 1) ∧ M'.2 36 3 = 2) ∨ ((0 ≤ b ∧ b < k ∧ 0 ≤ c ∧ c ≤ 1) ∧ M'.2 36 3 = 0 ∧ r = if c = 0 then (s b.toNat).1 else (s b.toNat).2)))) := by
  by_cases h1 : 0 ≤ a ∧ a < 80
  · obtain ⟨M1, e1, hok1, hko1, hsm1, ht1, r1⟩ := s_ld8 P hM (p := a.toNat) (by omega) hn
    rw [show ((a.toNat : Nat) : Int) = a by omega] at e1
    have nA := po8_N P M a.toNat
    have xA := po8_X P hbd (p := a.toNat) (by omega)
    obtain ⟨A, hA⟩ : ∃ A, po8 P M a.toNat = A := ⟨_, rfl⟩
    rw [hA] at nA xA r1 ⊢
    have hok2 : ok (oI M1 36 15 0) := ok_oI hok1 (by omega)
    have r2 := RZ_fl r1 15 0
    have hkr2 : kr8 M1 (oI M1 36 15 0) := ⟨fun _ _ _ => rfl, fun k i _ _ _ h => by rw [oI_2, if_neg h]⟩
    have d6 : odI (oI M1 36 15 0) 42 0 = some ((nu co A : Int) - 1) := by rw [odI_n (i := 0) 0 rfl rfl (by rw [k42.2]; omega)]; exact congrArg some r2.1
    have h8 : ∃ (M8 : MI) (k : Nat) (s : Nat → Int × Int), (Option.bind (gI ((nu co A : Int) - 1) 0) fun _ => if (nu co A : Int) - 1 < 0 then some (oI M1 36 15 0) else Option.bind (f_X8_findRoots n (oI M1 36 15 0)) fun v7 => some v7) = some M8 ∧ ok M8 ∧ kr8 M1 M8 ∧ RR M8 k s ∧ (A = 0 ∧ k = 0 ∨ A ≠ 0 ∧ RSet P A k s) ∧ k ≤ 10 ∧ ∀ i, i < k → nz (s i).1 ≤ 9999 ∧ (s i).2 ≤ 9999 := by
      by_cases h0 : nu co A = 0
      · refine ⟨_, 0, fun _ => (0, 0), by rw [gI_s (by omega) (by omega), bs, if_pos (by omega)], hok2, hkr2, ⟨by rw [oI_2, if_pos ⟨rfl, rfl⟩]; rfl, fun i hi => absurd hi (by omega)⟩, Or.inl ⟨(nu_zero P).mp h0, rfl⟩, by omega, fun i hi => absurd hi (by omega)⟩
      · obtain ⟨M2, k, s, e2, hok3, hkr3, hRR, hRS, hk, hbs⟩ := s_findRoots P hok2 r2 h0 nA xA hn
        exact ⟨M2, k, s, by rw [gI_s (by omega) (by omega), bs, if_neg (by omega), e2, bs], hok3, kr8_trans hkr2 hkr3, hRR, Or.inr ⟨fun z => h0 ((nu_zero P).mpr z), hRS⟩, hk, hbs⟩
    obtain ⟨M8, k, s, e8, hok8, hkr8, hRR8, hRS8, hk8, hbs8⟩ := h8
    have hko8 : ko M M8 := ko_trans hko1 (ko_kr hkr8)
    have hsm8 : sm8 M M8 := sm8_trans hsm1 (sm8_kr hkr8)
    have pre : ∀ X, (f_X8_root n a b c M = some X) = ((Option.bind (Option.bind (gI b 0) fun _ => if b < 0 then some (2) else Option.bind (gI b (k : Int)) fun _ => if (k : Int) ≤ b then some (2) else Option.bind (gI c 0) fun _ => if c < 0 then some (2) else Option.bind (gI c (1)) fun _ => if c ≤ (1) then some (0) else some (2)) fun v9 => Option.bind (opI M8 36 3 v9) fun v10 => Option.bind (gI (v10.2 36 3) 0) fun _ => if (v10.2 36 3) = 0 then Option.bind (Option.bind (gI c 0) fun _ => if c = 0 then Option.bind (odI v10 46 b) fun v12 => some v12 else Option.bind (odI v10 47 b) fun v11 => some v11) fun v13 => some (v13, v10) else some ((0), v10)) = some X) := fun X => by
      unfold f_X8_root
      rw [s_isPoly a ha, bs, if_pos h1, gI_s (by omega) (by omega), bs, if_neg (by omega), bs]
      show ((Option.bind (some (oI M 36 3 0)) _) = _) = _
      rw [bs, th_fl, gI_s (by omega) (by omega), bs, if_pos rfl, e1, bs]
      show ((Option.bind (some (oI M1 36 15 0)) _) = _) = _
      rw [bs, d6, bs, e8, bs, hRR8.1]
    by_cases hgd : 0 ≤ b ∧ b < k ∧ 0 ≤ c ∧ c ≤ 1
    · obtain ⟨q1, q2⟩ := hRR8.2 b.toNat (by omega)
      refine ⟨(if c = 0 then (s b.toNat).1 else (s b.toNat).2), oI M8 36 3 0, ?_, ok_oI hok8 (by omega), ko_trans hko8 (ko_oI M8 (a := 36) (by omega) 3 0), sm8_trans hsm8 (sm8_fl M8 (by omega) (by omega) 0), Or.inr ⟨h1, k, s, hRS8, Or.inr ⟨hgd, th_fl M8 0, rfl⟩⟩⟩
      rw [pre, gI_s hb (by omega), bs, if_neg (by omega), gI_s hb (by omega), bs, if_neg (by omega), gI_s hc (by omega), bs, if_neg (by omega), gI_s hc (by omega), bs, if_pos (by omega), bs]
      unfold opI
      rw [bs, th_fl, gI_s (by omega) (by omega), bs, if_pos rfl]
      by_cases z : c = 0
      · rw [if_pos z, if_pos z, odI_n b.toNat rfl (by omega) (by rw [k46.2]; omega), bs, bs, oI_2, if_neg (by omega), q1]; rfl
      · rw [if_neg z, if_neg z, odI_n b.toNat rfl (by omega) (by rw [k47.2]; omega), bs, bs, oI_2, if_neg (by omega), q2]; rfl
    · refine ⟨0, oI M8 36 3 2, ?_, ok_oI hok8 (by omega), ko_trans hko8 (ko_oI M8 (a := 36) (by omega) 3 2), sm8_trans hsm8 (sm8_fl M8 (by omega) (by omega) 2), Or.inr ⟨h1, k, s, hRS8, Or.inl ⟨hgd, th_fl M8 2⟩⟩⟩
      have e9 : (Option.bind (gI b 0) fun _ => if b < 0 then some (2 : Int) else Option.bind (gI b (k : Int)) fun _ => if (k : Int) ≤ b then some (2) else Option.bind (gI c 0) fun _ => if c < 0 then some (2) else Option.bind (gI c (1)) fun _ => if c ≤ (1) then some (0) else some (2)) = some 2 := by
        rw [gI_s hb (by omega), bs]
        by_cases z1 : b < 0
        · rw [if_pos z1]
        · rw [if_neg z1, gI_s hb (by omega), bs]
          by_cases z2 : (k : Int) ≤ b
          · rw [if_pos z2]
          · rw [if_neg z2, gI_s hc (by omega), bs]
            by_cases z3 : c < 0
            · rw [if_pos z3]
            · rw [if_neg z3, gI_s hc (by omega), bs, if_neg (by omega)]
      rw [pre, e9, bs]
      unfold opI
      rw [bs, th_fl, gI_s (by omega) (by omega), bs, if_neg (by omega)]
  · refine ⟨0, oI M 36 3 1, ?_, ok_oI hM (by omega), ko_oI M (a := 36) (by omega) 3 1, sm8_fl M (by omega) (by omega) 1, Or.inl ⟨h1, th_fl M 1⟩⟩
    unfold f_X8_root opI
    rw [s_isPoly a ha, bs, if_neg h1, gI_s (by omega) (by omega), bs, if_pos rfl, bs, bs, th_fl, gI_s (by omega) (by omega), bs, if_neg (by omega)]
end MRoots2
