/-! the class's findRoots -/
section MRootF
theorem rt_low {S : Type} [Lean.Grind.CommRing S] {co : S → Nat → Int} (P : isPol co) {F : S} (hF : F ≠ 0) {low : Nat} (hlow : ∀ i, i < low → co F i = 0) (hlow2 : co F low ≠ 0) {x : Int × Int} (h : rt P F x) (hx : x.1 ≠ 0) : low + 1 < nu co F := by
  obtain ⟨h1, h2, w, hw⟩ := h
  have hw0 : w ≠ 0 := fun z => hF (by rw [hw, z]; grind)
  obtain ⟨j, hj, hj2⟩ := least (p := fun i => co w i ≠ 0) (Classical.byContradiction fun hno => hw0 (p_ext P (fun i => by rw [p_zero P]; exact Classical.byContradiction fun h => hno ⟨i, h⟩)))
  obtain ⟨m1, m2⟩ := mul_low P (a := lin1 P x.1 x.2) (b := w) (j := 0) (k := j) (fun i hi => absurd hi (by omega)) (fun i hi => Classical.byContradiction fun h => hj2 i hi h)
  rw [← hw, Nat.zero_add] at m1 m2
  rw [lin1_co P, if_neg (by omega), if_pos rfl] at m1
  have hjl : low ≤ j := by
    rcases Nat.lt_or_ge j low with z | z
    · exfalso
      have := hlow j z
      rw [m1] at this
      rcases Int.mul_eq_zero.mp this with y | y
      · omega
      · exact hj y
    · exact z
  have hjN : j < nu co w := nu_gt P hj
  have hN := lin1_N P x.1 (v := x.2) (by omega)
  have hl0 : lin1 P x.1 x.2 ≠ 0 := fun z => by rw [(nu_zero P).mpr z] at hN; omega
  have := nu_mul P int_D hl0 hw0
  rw [← hw, hN] at this
  omega
def dnc (th tt : Nat → Nat) (i j : Nat) (x : Int × Int) : Prop := x.1 = 0 ∨ (∃ i', i' < i ∧ x.2 = (th i' : Int)) ∨ (x.2 = (th i : Int) ∧ ∃ j', j' < j ∧ x.1.natAbs = tt j')
theorem dnc_s (th tt : Nat → Nat) (i j : Nat) (x : Int × Int) : dnc th tt i (j + 1) x ↔ dnc th tt i j x ∨ (x.2 = (th i : Int) ∧ x.1.natAbs = tt j) := by
  unfold dnc
  constructor
  · rintro (z | z | ⟨z, j', hj, e⟩)
    · exact Or.inl (Or.inl z)
    · exact Or.inl (Or.inr (Or.inl z))
    · rcases Nat.lt_or_ge j' j with y | y
      · exact Or.inl (Or.inr (Or.inr ⟨z, j', y, e⟩))
      · exact Or.inr ⟨z, by rw [e, show j' = j by omega]⟩
  · rintro ((z | z | ⟨z, j', hj, e⟩) | ⟨z, e⟩)
    · exact Or.inl z
    · exact Or.inr (Or.inl z)
    · exact Or.inr (Or.inr ⟨z, j', by omega, e⟩)
    · exact Or.inr (Or.inr ⟨z, j, by omega, e⟩)
theorem c_findRoots {S : Type} [Lean.Grind.CommRing S] {co : S → Nat → Int} (P : isPol co) {M : MI} (hM : ok M) {a : Nat} (ha : row a) (haR : ¬ (32 ≤ a ∧ a < 36)) {F : S} (cF : CZ co M a F) (hF : F = 0 ∨ (prim co F ∧ 0 < co F (nu co F - 1))) (hXF : ∀ i, nz (co F i) ≤ 9999) {n : Nat} (hn : 18446744073709551616 ≤ n) :
    ∃ M' k s, f_X4_findRoots n a M = some M' ∧ ok M' ∧ kr4 M M' ∧ RC M' k s ∧ (F = 0 ∧ k = 0 ∨ F ≠ 0 ∧ RSet P F k s) ∧ k ≤ 10 ∧ ∀ i, i < k → nz (s i).1 ≤ 9999 ∧ (s i).2 ≤ 9999 := by
  have hNF := cF.2
  obtain ⟨M1, hM1⟩ : ∃ M1, M1 = oI M 6 2 0 := ⟨_, rfl⟩
  have hok1 : ok M1 := by rw [hM1]; exact ok_oI hM (by omega)
  have kr1 : kr4 M M1 := by rw [hM1]; exact ⟨fun _ _ _ _ _ _ => rfl, fun k i h => by rw [oI_2, if_neg h]⟩
  have cF1 : CZ co M1 a F := ⟨fun i hi => by rw [hM1]; exact cF.1 i hi, hNF⟩
  have rc1 : RC M1 0 (fun _ => (0, 0)) := ⟨by rw [hM1, oI_2, if_pos ⟨rfl, rfl⟩]; rfl, fun i hi => absurd hi (by omega)⟩
  have hd1 := c_degree P hok1 ha cF1 hn
  have hopI : opI M 6 2 0 = some M1 := by rw [hM1]; rfl
  by_cases hN : (1 : Int) ≤ (nu co F : Int) - 1
  · have hF0 : nu co F ≠ 0 := by omega
    have hFne : F ≠ 0 := fun z => hF0 ((nu_zero P).mpr z)
    obtain ⟨hpF, hlc⟩ := hF.resolve_left hFne
    obtain ⟨low, hlow2, hlow⟩ := least (p := fun i => co F i ≠ 0) ⟨nu co F - 1, nu_top P F (by omega)⟩
    have hlow : ∀ i, i < low → co F i = 0 := fun i hi => Classical.byContradiction fun h => hlow i hi h
    have hlN : low < nu co F := nu_gt P hlow2
    have hL18 : lpF (l_X4_findRoots_18 a M1 ((nu co F : Int) - 1)) n 0 = some (low : Int) := lp_for (step := l_X4_findRoots_18 a M1 ((nu co F : Int) - 1)) (fun k => ((k : Nat) : Int)) (low : Int) low n (fun k hk => by
      unfold l_X4_findRoots_18
      rw [gI_s (by omega) (by omega), bs, if_neg (by omega), odJ_n k ha.1 rfl (by rw [ha.2]; omega), bs, cF1.1 k (by omega), hlow k hk, gJ_s (by omega) (by omega), bs, if_pos rfl]
      rfl) (by
      unfold l_X4_findRoots_18
      rw [gI_s (by omega) (by omega), bs]
      by_cases z : (nu co F : Int) - 1 ≤ low
      · rw [if_pos z]
      · have := nz_le.mp (hXF low)
        rw [if_neg z, odJ_n low ha.1 rfl (by rw [ha.2]; omega), bs, cF1.1 low (by omega), gJ_s (by omega) (by omega), bs, if_neg hlow2]) (by omega)
    have hRI1 : RIc P F a M1 0 (fun _ => (0, 0)) := ⟨hok1, cF1, rc1, fun i hi => absurd hi (by omega), fun a b _ hb => absurd hb (by omega)⟩
    -- the root 0
    have h8 : ∃ M8 k s, (Option.bind (gI (low : Int) 0) fun _ => if (low : Int) ≤ 0 then some M1 else Option.bind (f_X4_add n (0) (1) M1) fun v7 => some v7) = some M8 ∧ kr4 M M8 ∧ RIc P F a M8 k s ∧ ∀ x, (∃ i, i < k ∧ s i = x) ↔ (rt P F x ∧ x.1 = 0) := by
      by_cases hz : (low : Int) ≤ 0
      · refine ⟨M1, 0, fun _ => (0, 0), by rw [gI_s (by omega) (by omega), bs, if_pos hz], kr1, hRI1, fun x => ?_⟩
        constructor
        · rintro ⟨i, hi, -⟩; omega
        · rintro ⟨z1, z2⟩
          exfalso
          have := (rt_zero P z1 z2).2
          rw [show low = 0 by omega] at hlow2
          exact hlow2 this
      · have hrt0 : rt P F (0, 1) := rt_zero2 P (hlow 0 (by omega))
        obtain ⟨M8, k, s, e8, hkr8, -, hRI8, hm8⟩ := c_addR P hF0 hNF haR (u := 0) (v := 1) (by decide) (by omega) hrt0 hRI1 (fun i hi => absurd hi (by omega)) hn
        refine ⟨M8, k, s, by rw [gI_s (by omega) (by omega), bs, if_neg hz, e8, bs], kr4_trans kr1 hkr8, hRI8, fun x => ?_⟩
        rw [hm8 x]
        constructor
        · rintro (⟨i, hi, -⟩ | z1)
          · omega
          · exact ⟨by rw [z1]; exact hrt0, by rw [z1]⟩
        · rintro ⟨z1, z2⟩
          exact Or.inr (rt_zero P z1 z2).1
    obtain ⟨M8, k8, s8, e8, kr8', hRI8, hm8⟩ := h8
    obtain ⟨hok8, cF8, rc8, hrt8, hso8⟩ := id hRI8
    have h9 := nz_le.mp (hXF (nu co F - 1))
    have h9l := nz_le.mp (hXF low)
    -- divisors of the head
    obtain ⟨M11, ch, th, e11, hok11, ch11, hch, hth, hthd, hthi⟩ := c_listDivisors hok8 (a := 34) rfl rfl (v := co F (nu co F - 1)) (by omega) (hXF _) hn
    have cF11 := CZ_ch cF8 ch11 (by simp; omega)
    obtain ⟨M14, ct, tt, e14, hok14, ch14, hct, htt, httd, htti⟩ := c_listDivisors hok11 (a := 35) rfl rfl (v := co F low) hlow2 (hXF _) hn
    have cF14 := CZ_ch cF11 ch14 (by simp; omega)
    have hth14 : ∀ j, j < ch → M14.1 34 j = th j := fun j hj => by rw [ch14.2 34 j (by simp)]; exact (hth j hj).1
    have rc14 : RC M14 k8 s8 := ⟨by rw [ch14.1, ch11.1]; exact rc8.1, fun i hi => by rw [ch14.2 32 i (by simp), ch11.2 32 i (by simp), ch14.2 33 i (by simp), ch11.2 33 i (by simp)]; exact rc8.2 i hi⟩
    have kr14 : kr4 M M14 := kr4_trans kr8' ⟨fun k i _ _ h1 h2 => by rw [ch14.2 k i (by simpa using h2), ch11.2 k i (by simpa using h1)], fun k i _ => by rw [ch14.1, ch11.1]⟩
    have hRI14 : RIc P F a M14 k8 s8 := ⟨hok14, cF14, rc14, hrt8, hso8⟩
    have hdx2 : ∀ x, rt P F x → ∃ i, i < ch ∧ x.2 = (th i : Int) := fun x hx => by
      have h1 := rt_head P hFne hx
      have h2 := hx.1
      obtain ⟨i, hi, e⟩ := (hthd x.2.natAbs).mpr (Int.natAbs_dvd_natAbs.mpr h1)
      exact ⟨i, hi, by omega⟩
    have hdx1 : ∀ x, rt P F x → x.1 ≠ 0 → ∃ j, j < ct ∧ x.1.natAbs = tt j := fun x hx h0 => by
      have h1 := rt_tail P hFne hlow hlow2 hx h0
      obtain ⟨j, hj, e⟩ := (httd x.1.natAbs).mpr (Int.natAbs_dvd_natAbs.mpr h1)
      exact ⟨j, hj, e.symm⟩
    -- the inner loop
    have hin : ∀ (i : Nat), i < ch → ∀ (M15 : MI) (k : Nat) (s : Nat → Int × Int), kr4 M M15 → (∀ j i, (j = 34 ∨ j = 35) → M15.1 j i = M14.1 j i) → RIc P F a M15 k s → (∀ x, (∃ i, i < k ∧ s i = x) ↔ (rt P F x ∧ dnc th tt i 0 x)) → ∃ M26 k' s', lpF (l_X4_findRoots_89 n a low ct i) n (M15, 0) = some M26 ∧ kr4 M M26 ∧ (∀ j i, (j = 34 ∨ j = 35) → M26.1 j i = M14.1 j i) ∧ RIc P F a M26 k' s' ∧ ∀ x, (∃ i, i < k' ∧ s' i = x) ↔ (rt P F x ∧ dnc th tt (i + 1) 0 x) := by
      intro i hi M15 k s g1 g2 g3 g4
      have hthi1 := (hth i hi).2
      obtain ⟨M26, hL, r1, r2, k', s', r3, r4⟩ := lp_do (step := l_X4_findRoots_89 n a low ct i) (fun st => kr4 M st.1 ∧ (∀ j i, (j = 34 ∨ j = 35) → st.1.1 j i = M14.1 j i) ∧ ∃ (j k : Nat) (s : Nat → Int × Int), st.2 = j ∧ j ≤ ct ∧ RIc P F a st.1 k s ∧ ∀ x, (∃ i, i < k ∧ s i = x) ↔ (rt P F x ∧ dnc th tt i j x)) (fun st => ((ct : Int) + 1 - st.2).toNat) (fun r => kr4 M r ∧ (∀ j i, (j = 34 ∨ j = 35) → r.1 j i = M14.1 j i) ∧ ∃ k s, RIc P F a r k s ∧ ∀ x, (∃ i, i < k ∧ s i = x) ↔ (rt P F x ∧ dnc th tt (i + 1) 0 x)) (fun st hst => by
        obtain ⟨M17, y⟩ := st
        obtain ⟨b1, b2, j, k, s, hy, hj, b3, b4⟩ := hst
        dsimp only at b1 b2 hy b3
        subst hy
        unfold l_X4_findRoots_89
        dsimp only
        rw [gI_s (by omega) (by omega), bs]
        by_cases hlt : (ct : Int) ≤ j
        · rw [if_pos hlt]
          have e : j = ct := by omega
          refine Or.inl ⟨_, rfl, b1, b2, k, s, b3, fun x => ?_⟩
          rw [b4 x, e]
          constructor
          · rintro ⟨z1, z2⟩
            refine ⟨z1, ?_⟩
            rcases z2 with z | ⟨i', hi', e'⟩ | ⟨z, -⟩
            · exact Or.inl z
            · exact Or.inr (Or.inl ⟨i', by omega, e'⟩)
            · exact Or.inr (Or.inl ⟨i, by omega, z⟩)
          · rintro ⟨z1, z2⟩
            refine ⟨z1, ?_⟩
            rcases z2 with z | ⟨i', hi', e'⟩ | ⟨-, j', hj', -⟩
            · exact Or.inl z
            · by_cases y : x.1 = 0
              · exact Or.inl y
              · rcases Nat.lt_or_ge i' i with w | w
                · exact Or.inr (Or.inl ⟨i', w, e'⟩)
                · exact Or.inr (Or.inr ⟨by rw [e', show i' = i by omega], hdx1 x z1 y⟩)
            · omega
        · obtain ⟨t1, t2, t3⟩ := htt j (by omega)
          have w35 : M17.1 35 j = tt j := by rw [b2 35 j (Or.inr rfl)]; exact t1
          have w34 : M17.1 34 i = th i := by rw [b2 34 i (Or.inl rfl)]; exact hth14 i hi
          have hnew1 : ∀ l, l < k → s l ≠ ((tt j : Int), (th i : Int)) := fun l hl e => by
            have := ((b4 (s l)).mp ⟨l, hl, rfl⟩).2
            rw [e] at this
            rcases this with z | ⟨i', hi', e'⟩ | ⟨-, j', hj', e'⟩
            · dsimp only at z; omega
            · dsimp only at e'; exact hthi i' i hi' hi (by omega)
            · dsimp only at e'; exact htti j' j hj' (by omega) (by omega)
          obtain ⟨M21, k2, s2, e21, kr21, f21, hRI21, hm21⟩ := c_addIfRoot P hF0 hpF hXF ha haR hlow hlow2 (u := tt j) (v := th i) (by unfold nz; omega) (by omega) (by omega) b3 hnew1 hn
          have hnew2 : ∀ l, l < k2 → s2 l ≠ (-(tt j : Int), (th i : Int)) := fun l hl e => by
            rcases (hm21 (s2 l)).mp ⟨l, hl, rfl⟩ with z | z
            · have := ((b4 (s2 l)).mp z).2
              rw [e] at this
              rcases this with z | ⟨i', hi', e'⟩ | ⟨-, j', hj', e'⟩
              · dsimp only at z; omega
              · dsimp only at e'; exact hthi i' i hi' hi (by omega)
              · dsimp only at e'; exact htti j' j hj' (by omega) (by omega)
            · have := z.1
              rw [e] at this
              have := congrArg Prod.fst this
              dsimp only at this
              omega
          obtain ⟨M24, k3, s3, e24, kr24, f24, hRI24, hm24⟩ := c_addIfRoot P hF0 hpF hXF ha haR hlow hlow2 (u := -(tt j : Int)) (v := th i) (by unfold nz; omega) (by omega) (by omega) hRI21 hnew2 hn
          have w35' : M21.1 35 j = tt j := by rw [f21 35 j (Or.inr rfl)]; exact w35
          have w34' : M21.1 34 i = th i := by rw [f21 34 i (Or.inl rfl)]; exact w34
          rw [if_neg hlt, odJ_n (k := 35) j rfl rfl (show j < 64 by omega), bs, w35, odJ_n (k := 34) i rfl rfl (show i < 64 by omega), bs, w34, e21, bs, odJ_n (k := 35) j rfl rfl (show j < 64 by omega), bs, w35', odJ_n (k := 34) i rfl rfl (show i < 64 by omega), bs, w34', e24, bs]
          refine Or.inr ⟨_, rfl, ⟨kr4_trans b1 (kr4_trans kr21 kr24), fun j' i' h => by dsimp only; rw [f24 j' i' h, f21 j' i' h]; exact b2 j' i' h, j + 1, k3, s3, by dsimp only; omega, by omega, hRI24, fun x => ?_⟩, by dsimp only; omega⟩
          rw [hm24 x, hm21 x, b4 x, dnc_s]
          constructor
          · rintro ((⟨z1, z2⟩ | ⟨z1, z2⟩) | ⟨z1, z2⟩)
            · exact ⟨z1, Or.inl z2⟩
            · exact ⟨z2, Or.inr (by rw [z1]; exact ⟨rfl, by dsimp only; omega⟩)⟩
            · exact ⟨z2, Or.inr (by rw [z1]; exact ⟨rfl, by dsimp only; omega⟩)⟩
          · rintro ⟨z1, z2 | ⟨y1, y2⟩⟩
            · exact Or.inl (Or.inl ⟨z1, z2⟩)
            · rcases Int.lt_or_le x.1 0 with w | w
              · exact Or.inr ⟨Prod.ext (by dsimp only; omega) y1, z1⟩
              · exact Or.inl (Or.inr ⟨Prod.ext (by dsimp only; omega) y1, z1⟩)) n (M15, 0) ⟨g1, g2, 0, k, s, rfl, by omega, g3, g4⟩ (by dsimp only; omega)
      exact ⟨M26, k', s', hL, r1, r2, r3, r4⟩
    -- the outer loop
    obtain ⟨M28, hL28, h2, k, s, h3, h4⟩ := lp_do (step := l_X4_findRoots_74 n a ((nu co F : Int) - 1) low ch ct) (fun st => kr4 M st.1 ∧ (∀ j i, (j = 34 ∨ j = 35) → st.1.1 j i = M14.1 j i) ∧ ∃ (i k : Nat) (s : Nat → Int × Int), st.2 = i ∧ i ≤ ch ∧ RIc P F a st.1 k s ∧ ∀ x, (∃ i, i < k ∧ s i = x) ↔ (rt P F x ∧ dnc th tt i 0 x)) (fun st => ((ch : Int) + 1 - st.2).toNat) (fun r => kr4 M r ∧ ∃ k s, RIc P F a r k s ∧ ∀ x, (∃ i, i < k ∧ s i = x) ↔ rt P F x) (fun st hst => by
      obtain ⟨M15, y⟩ := st
      obtain ⟨b1, b2, i, k, s, hy, hi, b3, b4⟩ := hst
      dsimp only at b1 b2 hy b3
      subst hy
      unfold l_X4_findRoots_74
      dsimp only
      rw [gI_s (by omega) (by omega), bs]
      by_cases hlt : (ch : Int) ≤ i
      · rw [if_pos hlt]
        refine Or.inl ⟨_, rfl, b1, k, s, b3, fun x => ?_⟩
        rw [b4 x]
        refine ⟨fun z => z.1, fun z => ⟨z, ?_⟩⟩
        obtain ⟨i', hi', e'⟩ := hdx2 x z
        exact Or.inr (Or.inl ⟨i', by omega, e'⟩)
      · rw [if_neg hlt, gI_s (by omega) (by omega), bs]
        by_cases htop : (nu co F : Int) - 1 ≤ low
        · rw [if_pos htop]
          refine Or.inl ⟨_, rfl, b1, k, s, b3, fun x => ?_⟩
          rw [b4 x]
          refine ⟨fun z => z.1, fun z => ⟨z, ?_⟩⟩
          by_cases y : x.1 = 0
          · exact Or.inl y
          · have := rt_low P hFne hlow hlow2 z y
            omega
        · obtain ⟨M26, k', s', e26, q1, q2, q3, q4⟩ := hin i (by omega) M15 k s b1 b2 b3 b4
          rw [if_neg htop, e26, bs]
          exact Or.inr ⟨_, rfl, ⟨q1, q2, i + 1, k', s', by dsimp only; omega, by omega, q3, q4⟩, by dsimp only; omega⟩) n (M14, 0) ⟨kr14, fun _ _ _ => rfl, 0, k8, s8, rfl, by omega, hRI14, fun x => by
        rw [hm8 x]
        constructor
        · rintro ⟨z1, z2⟩; exact ⟨z1, Or.inl z2⟩
        · rintro ⟨z1, z2⟩
          refine ⟨z1, ?_⟩
          rcases z2 with z | ⟨i', hi', -⟩ | ⟨-, j', hj', -⟩
          · exact z
          · omega
          · omega⟩ (by dsimp only; omega)
    obtain ⟨hok28, -, rc28, hrt28, hso28⟩ := h3
    have hne : ∀ i j, i < j → j < k → s i ≠ s j := fun i j hij hj e => by have := hso28 i j hij hj; rw [e] at this; exact rlt_irr _ this
    have hk10 : k ≤ 10 := by
      have := rt_cnt P hFne (fun i hi => (hrt28 i hi).1) hne
      omega
    refine ⟨M28, k, s, ?_, hok28, h2, rc28, Or.inr ⟨hFne, fun i hi => (hrt28 i hi).1, fun x hx => (h4 x).mpr hx, hso28⟩, hk10, fun i hi => (hrt28 i hi).2⟩
    unfold f_X4_findRoots
    rw [hopI, bs, hd1, bs, gI_s (by omega) (by omega), bs, if_pos hN, hL18, bs, e8, bs, odJ_n (nu co F - 1) ha.1 (by omega) (by rw [ha.2]; omega), bs, cF8.1 (nu co F - 1) (by omega), e11, bs]
    dsimp only
    rw [odJ_n low ha.1 rfl (by rw [ha.2]; omega), bs, cF11.1 low (by omega), e14, bs]
    dsimp only
    rw [hL28, bs]
  · refine ⟨M1, 0, fun _ => (0, 0), ?_, hok1, kr1, rc1, ?_, by omega, fun i hi => absurd hi (by omega)⟩
    · unfold f_X4_findRoots
      rw [hopI, bs, hd1, bs, gI_s (by omega) (by omega), bs, if_neg hN]
    · by_cases h0 : F = 0
      · exact Or.inl ⟨h0, rfl⟩
      · refine Or.inr ⟨h0, fun i hi => absurd hi (by omega), fun x hx => ?_, fun a b _ hb => absurd hb (by omega)⟩
        exfalso
        have := rt_cnt P h0 (k := 1) (s := fun _ => x) (fun i _ => hx) (fun i j a b => absurd a (by omega))
        omega
end MRootF
