/-! the reference's roots -/
section MRoots
theorem k46 : kd 46 = 1 ∧ kn 46 = 12 := ⟨rfl, rfl⟩
theorem k47 : kd 47 = 1 ∧ kn 47 = 12 := ⟨rfl, rfl⟩
def kr8 (M M' : MI) : Prop := (∀ k i, k ≠ 41 → M'.1 k i = M.1 k i) ∧ (∀ k i, k ≠ 42 → k ≠ 46 → k ≠ 47 → ¬ (k = 36 ∧ i = 15) → M'.2 k i = M.2 k i)
theorem kr8_refl (M : MI) : kr8 M M := ⟨fun _ _ _ => rfl, fun _ _ _ _ _ _ => rfl⟩
theorem kr8_trans {M M' M'' : MI} (h : kr8 M M') (h1 : kr8 M' M'') : kr8 M M'' := ⟨fun k i a => (h1.1 k i a).trans (h.1 k i a), fun k i a b c d => (h1.2 k i a b c d).trans (h.2 k i a b c d)⟩
theorem kr8_chg {Rs : List Nat} {M M' : MI} (h : chg Rs M M') : kr8 M M' := ⟨h.1, fun k i a _ _ _ => h.2.1 k i a⟩
def RR (M : MI) (k : Nat) (s : Nat → Int × Int) : Prop := M.2 36 15 = k ∧ ∀ i, i < k → M.2 46 i = (s i).1 ∧ M.2 47 i = (s i).2
def ins {α : Type} (s : Nat → α) (j : Nat) (x : α) : Nat → α := fun i => if i < j then s i else if i = j then x else s (i - 1)
theorem ins_lo {α : Type} (s : Nat → α) {j i : Nat} (x : α) (h : i < j) : ins s j x i = s i := if_pos h
theorem ins_at {α : Type} (s : Nat → α) (j : Nat) (x : α) : ins s j x j = x := by unfold ins; rw [if_neg (by omega), if_pos rfl]
theorem ins_hi {α : Type} (s : Nat → α) {j i : Nat} (x : α) (h : j < i) : ins s j x i = s (i - 1) := by unfold ins; rw [if_neg (by omega), if_neg (by omega)]
theorem ins_mem {α : Type} {s : Nat → α} {k j : Nat} (hj : j ≤ k) (x y : α) : (∃ i, i < k + 1 ∧ ins s j x i = y) ↔ ((∃ i, i < k ∧ s i = y) ∨ y = x) := by
  constructor
  · rintro ⟨i, hi, e⟩
    rcases Nat.lt_trichotomy i j with z | z | z
    · rw [ins_lo s x z] at e; exact Or.inl ⟨i, by omega, e⟩
    · rw [z, ins_at] at e; exact Or.inr e.symm
    · rw [ins_hi s x z] at e; exact Or.inl ⟨i - 1, by omega, e⟩
  · rintro (⟨i, hi, e⟩ | e)
    · rcases Nat.lt_or_ge i j with z | z
      · exact ⟨i, by omega, by rw [ins_lo s x z]; exact e⟩
      · exact ⟨i + 1, by omega, by rw [ins_hi s x (by omega)]; exact e⟩
    · exact ⟨j, by omega, by rw [ins_at]; exact e.symm⟩
theorem ins_so {α : Type} {lt : α → α → Prop} {s : Nat → α} {k j : Nat} (hj : j ≤ k) {x : α} (h : ∀ a b, a < b → b < k → lt (s a) (s b)) (h1 : ∀ i, i < j → lt (s i) x) (h2 : ∀ i, j ≤ i → i < k → lt x (s i)) : ∀ a b, a < b → b < k + 1 → lt (ins s j x a) (ins s j x b) := by
  intro a b hab hb
  rcases Nat.lt_trichotomy a j with z | z | z
  · rw [ins_lo s x z]
    rcases Nat.lt_trichotomy b j with y | y | y
    · rw [ins_lo s x y]; exact h a b hab (by omega)
    · rw [y, ins_at]; exact h1 a z
    · rw [ins_hi s x y]; exact h a (b - 1) (by omega) (by omega)
  · rw [z, ins_at, ins_hi s x (by omega)]; exact h2 (b - 1) (by omega) (by omega)
  · rw [ins_hi s x z, ins_hi s x (by omega)]; exact h (a - 1) (b - 1) (by omega) (by omega)
theorem s_addRootL {u v : Int} (hu : nz u ≤ 9999) (hv : 1 ≤ v ∧ v ≤ 9999) {k : Nat} (hk : k ≤ 10) {s : Nat → Int × Int} (hb : ∀ i, i < k → nz (s i).1 ≤ 9999 ∧ 1 ≤ (s i).2 ∧ (s i).2 ≤ 9999) {M : MI} (hM : ok M) (hRR : RR M k s) {n : Nat} (hn : 18446744073709551616 ≤ n) :
    ∃ (M' : MI) (j : Nat), lpF (l_X8_addRoot_44 u v) n (M, (k : Int)) = some (M', (j : Int)) ∧ ok M' ∧ M'.1 = M.1 ∧ (∀ a i, a ≠ 46 → a ≠ 47 → M'.2 a i = M.2 a i) ∧ j ≤ k ∧ (∀ i, i < j → M'.2 46 i = (s i).1 ∧ M'.2 47 i = (s i).2) ∧ (∀ i, j ≤ i → i < k → M'.2 46 (i + 1) = (s i).1 ∧ M'.2 47 (i + 1) = (s i).2) ∧ (j = 0 ∨ (s (j - 1)).1 * v ≤ u * (s (j - 1)).2) ∧ ∀ i, j ≤ i → i < k → ¬ (s i).1 * v ≤ u * (s i).2 := by
  obtain ⟨⟨M', ji⟩, hL, j, h1, h2, h3, h4, h5, h6, h7, h8, h9⟩ := lp_do (step := l_X8_addRoot_44 u v) (fun st => ∃ j : Nat, st.2 = j ∧ ok st.1 ∧ st.1.1 = M.1 ∧ (∀ a i, a ≠ 46 → a ≠ 47 → st.1.2 a i = M.2 a i) ∧ j ≤ k ∧ (∀ i, i < j → st.1.2 46 i = (s i).1 ∧ st.1.2 47 i = (s i).2) ∧ (∀ i, j ≤ i → i < k → st.1.2 46 (i + 1) = (s i).1 ∧ st.1.2 47 (i + 1) = (s i).2) ∧ ∀ i, j ≤ i → i < k → ¬ (s i).1 * v ≤ u * (s i).2) (fun st => st.2.toNat) (fun r => ∃ j : Nat, r.2 = j ∧ ok r.1 ∧ r.1.1 = M.1 ∧ (∀ a i, a ≠ 46 → a ≠ 47 → r.1.2 a i = M.2 a i) ∧ j ≤ k ∧ (∀ i, i < j → r.1.2 46 i = (s i).1 ∧ r.1.2 47 i = (s i).2) ∧ (∀ i, j ≤ i → i < k → r.1.2 46 (i + 1) = (s i).1 ∧ r.1.2 47 (i + 1) = (s i).2) ∧ (j = 0 ∨ (s (j - 1)).1 * v ≤ u * (s (j - 1)).2) ∧ ∀ i, j ≤ i → i < k → ¬ (s i).1 * v ≤ u * (s i).2) (fun st hst => by
    obtain ⟨M1, y⟩ := st
    obtain ⟨j, hy, a1, a2, a3, a4, a5, a6, a7⟩ := hst
    dsimp only at hy a1 a2 a3 a5 a6
    subst hy
    unfold l_X8_addRoot_44
    dsimp only
    rw [gI_s (by omega) (by omega), bs]
    by_cases h0 : (j : Int) ≤ 0
    · rw [if_pos h0]
      exact Or.inl ⟨_, rfl, j, rfl, a1, a2, a3, a4, a5, a6, Or.inl (by omega), a7⟩
    · obtain ⟨b1, b2, b3⟩ := hb (j - 1) (by omega)
      obtain ⟨c1, c2⟩ := a5 (j - 1) (by omega)
      have hu' := nz_le.mp hu
      have b1' := nz_le.mp b1
      have m1 : nz ((s (j - 1)).1 * v) ≤ 9999 * 9999 := nz_mul_le b1 (by rw [nz_le]; omega)
      have m2 : nz (u * (s (j - 1)).2) ≤ 9999 * 9999 := nz_mul_le hu (by rw [nz_le]; omega)
      rw [nz_le] at m1 m2
      rw [if_neg h0, odI_n (j - 1) rfl (by omega) (by rw [k46.2]; omega), bs, c1, gI_s (by omega) (by omega), bs, gI_s (by omega) (by omega), bs, gI_s (by omega) (by omega), bs, odI_n (j - 1) rfl (by omega) (by rw [k47.2]; omega), bs, c2, gI_s (by omega) (by omega), bs, gJ_s (by omega) (by omega), bs]
      by_cases hle : (s (j - 1)).1 * v ≤ u * (s (j - 1)).2
      · rw [if_pos hle]
        exact Or.inl ⟨_, rfl, j, rfl, a1, a2, a3, a4, a5, a6, Or.inr hle, a7⟩
      · have c2' : (oI M1 46 j (s (j - 1)).1).2 47 (j - 1) = (s (j - 1)).2 := by rw [oI_2, if_neg (by omega)]; exact c2
        rw [if_neg hle, bs, osI_n j rfl rfl (by rw [k46.2]; omega), bs, odI_n (j - 1) rfl (by omega) (by rw [k47.2]; omega), bs, c2', osI_n j rfl rfl (by rw [k47.2]; omega), bs]
        refine Or.inr ⟨_, rfl, ⟨j - 1, by dsimp only; omega, ok_oI (ok_oI a1 (by omega)) (by omega), a2, fun a i x1 x2 => ?_, by omega, fun i hi => ⟨?_, ?_⟩, fun i hi1 hi2 => ⟨?_, ?_⟩, fun i hi1 hi2 => ?_⟩, by dsimp only; omega⟩
        · dsimp only; rw [oI_2, if_neg (fun z => x2 z.1), oI_2, if_neg (fun z => x1 z.1)]; exact a3 a i x1 x2
        · dsimp only; rw [oI_2, if_neg (by omega), oI_2, if_neg (by omega)]; exact (a5 i (by omega)).1
        · dsimp only; rw [oI_2, if_neg (by omega), oI_2, if_neg (by omega)]; exact (a5 i (by omega)).2
        · dsimp only
          rw [oI_2, if_neg (by omega), oI_2]
          by_cases z : i + 1 = j
          · rw [if_pos ⟨rfl, z⟩, show i = j - 1 by omega]
          · rw [if_neg (by omega)]; exact (a6 i (by omega) hi2).1
        · dsimp only
          rw [oI_2]
          by_cases z : i + 1 = j
          · rw [if_pos ⟨rfl, z⟩, show i = j - 1 by omega]
          · rw [if_neg (by omega), oI_2, if_neg (by omega)]; exact (a6 i (by omega) hi2).2
        · rcases Nat.lt_or_ge i j with z | z
          · rw [show i = j - 1 by omega]; exact hle
          · exact a7 i z hi2) n (M, (k : Int)) ⟨k, rfl, hM, rfl, fun _ _ _ _ => rfl, Nat.le_refl _, fun i hi => hRR.2 i hi, fun i h1 h2 => absurd h1 (by omega), fun i h1 h2 => absurd h1 (by omega)⟩ (by dsimp only; omega)
  dsimp only at h1
  subst h1
  exact ⟨M', j, hL, h2, h3, h4, h5, h6, h7, h8, h9⟩
def RI {S : Type} [Lean.Grind.CommRing S] {co : S → Nat → Int} (P : isPol co) (F : S) (M : MI) (k : Nat) (s : Nat → Int × Int) : Prop := ok M ∧ RZ co M 0 F ∧ RR M k s ∧ (∀ i, i < k → rt P F (s i) ∧ nz (s i).1 ≤ 9999 ∧ (s i).2 ≤ 9999) ∧ ∀ a b, a < b → b < k → rlt (s a) (s b)
theorem s_addRoot {S : Type} [Lean.Grind.CommRing S] {co : S → Nat → Int} (P : isPol co) {F : S} (hF0 : nu co F ≠ 0) (hNF : nu co F ≤ 11) (hXF : ∀ i, nz (co F i) ≤ 9999) {u v : Int} (hu : nz u ≤ 9999) (hv : 1 ≤ v ∧ v ≤ 9999) (hg : Nat.gcd u.natAbs v.natAbs = 1) {M : MI} {k : Nat} {s : Nat → Int × Int} (h : RI P F M k s) (hnew : ∀ i, i < k → s i ≠ (u, v)) {n : Nat} (hn : 18446744073709551616 ≤ n) :
    ∃ M' k' s', f_X8_addRoot n u v M = some M' ∧ kr8 M M' ∧ RI P F M' k' s' ∧ ∀ x, (∃ i, i < k' ∧ s' i = x) ↔ ((∃ i, i < k ∧ s i = x) ∨ (x = (u, v) ∧ rt P F x)) := by
  obtain ⟨hM, r0, hRR, hrt, hso⟩ := h
  have hFne : F ≠ 0 := fun z => hF0 ((nu_zero P).mpr z)
  have hu' := nz_le.mp hu
  have hNl := lin1_N P u (v := v) (by omega)
  obtain ⟨M3, hM3⟩ : ∃ M3, M3 = oI (oJ (oJ M 41 24 (-u)) 41 25 v) 42 1 1 := ⟨_, rfl⟩
  have hok3 : ok M3 := by rw [hM3]; exact ok_oI (ok_oJ (ok_oJ hM (by omega)) (by omega)) (by omega)
  have hc3 : chg [1] M M3 := by
    rw [hM3]
    exact chg_mono (chg_trans (chg_win (s := 1) (M' := oJ (oJ M 41 24 (-u)) 41 25 v) rfl (fun k i h => by rw [oJ_1, if_neg (by omega), oJ_1, if_neg (by omega)])) (chg_oI _)) (fun x hx => by simpa using hx)
  have r13 : RZ co M3 1 (lin1 P u v) := ⟨by rw [hM3, hNl]; show (oI _ 42 1 1).2 42 1 = _; rw [oI_2, if_pos ⟨rfl, rfl⟩]; rfl, fun j hj => by
    rw [hNl] at hj
    rw [hM3]
    show (oJ (oJ M 41 24 (-u)) 41 25 v).1 41 (24 * 1 + j) = _
    rw [oJ_1, lin1_co P]
    by_cases z : j = 1
    · rw [if_pos (by omega), if_pos z]
    · rw [if_neg (by omega), oJ_1, if_pos (by omega), if_neg z, if_pos (by omega)]⟩
  have r03 := RZ_chg r0 hc3 (by simp) (by omega)
  obtain ⟨M4, hok4, hc4, hd4⟩ := s_divides P hok3 (g := 1) (a := 0) (by omega) (by omega) (by omega) (by omega) (by omega) (by omega) (b := 20000000) (by omega) (by omega) r13 r03 (by omega) (by omega) hF0 (fun i => by rw [lin1_co P]; split; omega; split <;> omega) (fun i => by have := hXF i; omega) hn
  have hkr4 : kr8 M M4 := kr8_trans (kr8_chg hc3) (kr8_chg hc4)
  have r04 := RZ_chg r03 hc4 (by simp) (by omega)
  have hRR4 : RR M4 k s := ⟨by rw [hc4.2.1 36 15 (by omega), hc3.2.1 36 15 (by omega)]; exact hRR.1, fun i hi => by rw [hc4.2.1 46 i (by omega), hc3.2.1 46 i (by omega), hc4.2.1 47 i (by omega), hc3.2.1 47 i (by omega)]; exact hRR.2 i hi⟩
  have pre : ∀ X, (f_X8_addRoot n u v M = some X) = ((Option.bind (f_X8_divides n (1) (0) (20000000) M3) fun (v6, M7) => Option.bind (gI v6 0) fun _ => if v6 = 0 then some M7 else Option.bind (lpF (l_X8_addRoot_44 u v) n (M7, M7.2 36 15)) fun (M21, v22) => Option.bind (osI M21 46 v22 u) fun v23 => Option.bind (osI v23 47 v22 v) fun v24 => Option.bind (opI v24 36 15 ((v24.2 36 15) + (1))) fun v25 => some v25) = some X) := fun X => by
    unfold f_X8_addRoot
    rw [gI_s (by omega) (by omega), bs, osJ_n (i := 24) 24 rfl rfl (by rw [k41.2]; omega), bs, gI_s (by omega) (by omega), bs, osJ_n (i := 25) 25 rfl rfl (by rw [k41.2]; omega), bs, osI_n (i := 1) 1 rfl rfl (by rw [k42.2]; omega), bs, ← hM3]
  have hbd1 : ∀ i, nz (co (lin1 P u v) i) ≤ 20000000 := fun i => by
    rw [lin1_co P]
    split
    · rw [nz_le]; omega
    · split
      · rw [nz_le]; omega
      · decide
  rcases hd4 with ⟨e4, q, hq, -, -, -⟩ | ⟨e4, hnd⟩
  · have e4' : f_X8_divides n 1 0 20000000 M3 = some (1, M4) := e4
    have hrt0 : rt P F (u, v) := ⟨by dsimp only; omega, hg, ⟨q, hq⟩⟩
    have hne : ∀ i j, i < j → j < k → s i ≠ s j := fun i j hij hj e => by have := hso i j hij hj; rw [e] at this; exact rlt_irr _ this
    have hk10 : k ≤ 10 := by
      have := rt_cnt P hFne (fun i hi => (hrt i hi).1) hne
      omega
    obtain ⟨M5, j, e5, hok5, h51, h5o, hjk, h5lo, h5hi, hstop, hpass⟩ := s_addRootL hu hv hk10 (fun i hi => ⟨(hrt i hi).2.1, by have := (hrt i hi).1.1; omega, (hrt i hi).2.2⟩) hok4 hRR4 hn
    obtain ⟨M6, hM6⟩ : ∃ M6, M6 = oI (oI (oI M5 46 j u) 47 j v) 36 15 ((k : Int) + 1) := ⟨_, rfl⟩
    have h15 : (oI (oI M5 46 j u) 47 j v).2 36 15 = k := by rw [oI_2, if_neg (by omega), oI_2, if_neg (by omega), h5o 36 15 (by omega) (by omega)]; exact hRR4.1
    have hvs : ∀ i, i < k → (s i).1 * v ≠ u * (s i).2 := fun i hi e => by
      obtain ⟨a, b⟩ := frac_eq (hrt i hi).1.1 (by omega) (hrt i hi).1.2.1 hg e
      exact hnew i hi (Prod.ext a b)
    have hlt1 : ∀ i, i < j → rlt (s i) (u, v) := fun i hi => by
      have h1 : rlt (s (j - 1)) (u, v) := by
        rcases hstop with z | z
        · omega
        · unfold rlt; dsimp only; have := hvs (j - 1) (by omega); omega
      rcases Nat.lt_or_ge i (j - 1) with z | z
      · exact rlt_trans (hrt i (by omega)).1.1 (hrt (j - 1) (by omega)).1.1 (by dsimp only; omega) (hso i (j - 1) z (by omega)) h1
      · rw [show i = j - 1 by omega]; exact h1
    have hlt2 : ∀ i, j ≤ i → i < k → rlt (u, v) (s i) := fun i h1 h2 => by unfold rlt; dsimp only; have := hpass i h1 h2; omega
    have M62 : ∀ a i, M6.2 a i = if a = 36 ∧ i = 15 then (k : Int) + 1 else if a = 47 ∧ i = j then v else if a = 46 ∧ i = j then u else M5.2 a i := fun a i => by rw [hM6, oI_2, oI_2, oI_2]
    have M61 : M6.1 = M4.1 := by rw [hM6]; exact h51
    refine ⟨M6, k + 1, ins s j (u, v), ?_, ?_, ⟨?_, ?_, ⟨?_, fun i hi => ?_⟩, fun i hi => ?_, ins_so hjk hso hlt1 hlt2⟩, fun x => ?_⟩
    · rw [pre, e4', bs]; dsimp only
      rw [gI_s (by omega) (by omega), bs, if_neg (by omega), hRR4.1, e5, bs]; dsimp only
      rw [osI_n j rfl rfl (by rw [k46.2]; omega), bs, osI_n j rfl rfl (by rw [k47.2]; omega), bs, h15]
      unfold opI
      rw [bs, ← hM6]
    · refine kr8_trans hkr4 ⟨fun a i _ => by rw [M61], fun a i _ b c d => ?_⟩
      rw [M62, if_neg d, if_neg (fun z => c z.1), if_neg (fun z => b z.1)]
      exact h5o a i b c
    · rw [hM6]; exact ok_oI (ok_oI (ok_oI hok5 (by omega)) (by omega)) (by omega)
    · refine ⟨?_, fun i hi => ?_⟩
      · show M6.2 42 0 = _
        rw [M62, if_neg (by omega), if_neg (by omega), if_neg (by omega), h5o 42 0 (by omega) (by omega)]
        exact r04.1
      · show M6.1 41 _ = _
        rw [M61]; exact r04.2 i hi
    · rw [M62, if_pos ⟨rfl, rfl⟩]; omega
    · have m46 : M6.2 46 i = if i = j then u else M5.2 46 i := by
        rw [M62, if_neg (by omega), if_neg (by omega)]
        by_cases z : i = j
        · rw [if_pos ⟨rfl, z⟩, if_pos z]
        · rw [if_neg (fun q => z q.2), if_neg z]
      have m47 : M6.2 47 i = if i = j then v else M5.2 47 i := by
        rw [M62, if_neg (by omega)]
        by_cases z : i = j
        · rw [if_pos ⟨rfl, z⟩, if_pos z]
        · rw [if_neg (fun q => z q.2), if_neg (by omega), if_neg z]
      rw [m46, m47]
      rcases Nat.lt_trichotomy i j with z | z | z
      · rw [if_neg (by omega), if_neg (by omega), ins_lo s _ z]; exact h5lo i z
      · rw [if_pos z, if_pos z, z, ins_at]; exact ⟨rfl, rfl⟩
      · rw [if_neg (by omega), if_neg (by omega), ins_hi s _ z]
        have := h5hi (i - 1) (by omega) (by omega)
        rw [show i - 1 + 1 = i by omega] at this
        exact this
    · rcases (ins_mem hjk (u, v) (ins s j (u, v) i)).mp ⟨i, hi, rfl⟩ with ⟨l, hl, e2⟩ | e2
      · rw [← e2]; exact hrt l hl
      · rw [e2]; exact ⟨hrt0, hu, hv.2⟩
    · rw [ins_mem hjk]
      constructor
      · rintro (z | z)
        · exact Or.inl z
        · exact Or.inr ⟨z, by rw [z]; exact hrt0⟩
      · rintro (z | z)
        · exact Or.inl z
        · exact Or.inr z.1
  · have e4' : f_X8_divides n 1 0 20000000 M3 = some (0, M4) := e4
    refine ⟨M4, k, s, ?_, hkr4, ⟨hok4, r04, hRR4, hrt, hso⟩, fun x => ?_⟩
    · rw [pre, e4', bs]; dsimp only
      rw [gI_s (by omega) (by omega), bs, if_pos rfl]
    · constructor
      · exact fun z => Or.inl z
      · rintro (z | ⟨z1, z2⟩)
        · exact z
        · exfalso
          rw [z1] at z2
          obtain ⟨w, hw⟩ := z2.2.2
          obtain ⟨b1, -, -⟩ := z_bd P hF0 hNF hXF (g := w) ⟨lin1 P u v, by rw [hw]; grind⟩
          exact hnd ⟨hbd1, w, hw, fun i => by have := b1 i; omega⟩
end MRoots
