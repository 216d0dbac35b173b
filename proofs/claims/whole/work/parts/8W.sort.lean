/-! the order of factors; before, sort -/
section MSort
def ltz {S : Type} [Lean.Grind.CommRing S] (co : S → Nat → Int) (f g : S) : Prop := ∃ k, (∀ j, k < j → co f j = co g j) ∧ co f k < co g k
theorem ltz_irr {S : Type} [Lean.Grind.CommRing S] {co : S → Nat → Int} (f : S) : ¬ ltz co f f := by rintro ⟨k, _, h⟩; omega
theorem ltz_trans {S : Type} [Lean.Grind.CommRing S] {co : S → Nat → Int} {f g h : S} (h1 : ltz co f g) (h2 : ltz co g h) : ltz co f h := by
  obtain ⟨k, a1, a2⟩ := h1
  obtain ⟨l, b1, b2⟩ := h2
  rcases Nat.lt_trichotomy k l with z | z | z
  · exact ⟨l, fun j hj => (a1 j (by omega)).trans (b1 j hj), by rw [a1 l z]; exact b2⟩
  · subst z; exact ⟨k, fun j hj => (a1 j hj).trans (b1 j hj), by omega⟩
  · exact ⟨k, fun j hj => (a1 j hj).trans (b1 j (by omega)), by rw [← b1 k z]; exact a2⟩
theorem ltz_tri {S : Type} [Lean.Grind.CommRing S] {co : S → Nat → Int} (P : isPol co) {f g : S} (hne : f ≠ g) : ltz co f g ∨ ltz co g f := by
  have hN : ∀ j, nu co f + nu co g ≤ j → co f j = co g j := fun j hj => by rw [nu_hi P f (by omega), nu_hi P g (by omega)]
  have key : ∀ n, (∀ j, n ≤ j → co f j = co g j) → (∃ k, (∀ j, k < j → co f j = co g j) ∧ co f k ≠ co g k) := by
    intro n
    induction n with
    | zero => exact fun h => absurd (p_ext P (fun i => h i (by omega))) hne
    | succ n ih =>
      intro h
      by_cases e : co f n = co g n
      · exact ih (fun j hj => by
          rcases Nat.lt_or_ge n j with z | z
          · exact h j z
          · rw [show j = n by omega]; exact e)
      · exact ⟨n, fun j hj => h j hj, e⟩
  obtain ⟨k, h1, h2⟩ := key _ hN
  rcases Int.lt_trichotomy (co f k) (co g k) with z | z | z
  · exact Or.inl ⟨k, h1, z⟩
  · exact absurd z h2
  · exact Or.inr ⟨k, fun j hj => (h1 j hj).symm, z⟩
theorem s_before {S : Type} [Lean.Grind.CommRing S] {co : S → Nat → Int} (P : isPol co) {M : MI} (hM : ok M) {a b : Nat} (ha : a < 60) (hb : b < 60) {f g : S} (hf : RZ co M a f) (hg : RZ co M b g) (hNf : nu co f ≤ 24) (hNg : nu co g ≤ 24) (lf : 0 < co f (nu co f - 1)) (lg : 0 < co g (nu co g - 1)) {n : Nat} (hn : 18446744073709551616 ≤ n) : (ltz co f g ∧ f_X8_before n a b M = some 1) ∨ (¬ ltz co f g ∧ f_X8_before n a b M = some 0) := by
  have d1 : odI M 42 a = some ((nu co f : Int) - 1) := by rw [odI_n a rfl rfl (by rw [k42.2]; exact ha)]; exact congrArg some hf.1
  have d2 : odI M 42 b = some ((nu co g : Int) - 1) := by rw [odI_n b rfl rfl (by rw [k42.2]; exact hb)]; exact congrArg some hg.1
  have nf : nu co f ≠ 0 := fun z => by rw [(nu_zero P).mp z, p_zero P] at lf; omega
  have ng : nu co g ≠ 0 := fun z => by rw [(nu_zero P).mp z, p_zero P] at lg; omega
  unfold f_X8_before
  rw [d1, bs, d2, bs, gI_s (by omega) (by omega), bs]
  by_cases he : (nu co f : Int) - 1 = (nu co g : Int) - 1
  · rw [if_pos he, bs]
    obtain ⟨r, hr, hr2⟩ := lp_do (step := l_X8_before_43 a b M) (fun st => ∃ t : Nat, st = (t : Int) - 1 ∧ t ≤ nu co f ∧ ∀ j, t ≤ j → co f j = co g j) (fun st => (st + 1).toNat) (fun r => (r = .inl 1 ∧ ltz co f g) ∨ (r = .inl 0 ∧ ¬ ltz co f g) ∨ (r = .inr () ∧ f = g)) (fun st hst => by
      obtain ⟨t, ht, ht1, ht2⟩ := hst
      subst ht
      unfold l_X8_before_43
      rw [gI_s (by omega) (by omega), bs]
      by_cases h0 : (t : Int) - 1 < 0
      · rw [if_pos h0]
        exact Or.inl ⟨_, rfl, Or.inr (Or.inr ⟨rfl, p_ext P (fun i => ht2 i (by omega))⟩)⟩
      · have wf : M.1 41 (24 * a + (t - 1)) = co f (t - 1) := hf.2 (t - 1) (by omega)
        have wg : M.1 41 (24 * b + (t - 1)) = co g (t - 1) := hg.2 (t - 1) (by omega)
        have i1 := hM.1 41 (24 * a + (t - 1))
        have i2 := hM.1 41 (24 * b + (t - 1))
        rw [if_neg h0, odJ_n (24 * a + (t - 1)) rfl (by omega) (by rw [k41.2]; omega), bs, odJ_n (24 * b + (t - 1)) rfl (by omega) (by rw [k41.2]; omega), bs, gJ_s i1 i2, bs]
        rw [wf] at i1 ⊢
        rw [wg] at i2 ⊢
        by_cases h1 : co f (t - 1) = co g (t - 1)
        · rw [if_pos h1]
          refine Or.inr ⟨_, rfl, ⟨t - 1, by omega, by omega, fun j hj => ?_⟩, by omega⟩
          rcases Nat.lt_or_ge j t with z | z
          · rw [show j = t - 1 by omega]; exact h1
          · exact ht2 j z
        · rw [if_neg h1, bs, bs, gJ_s i1 i2, bs]
          by_cases h2 : co g (t - 1) ≤ co f (t - 1)
          · rw [if_pos h2]
            refine Or.inl ⟨_, rfl, Or.inr (Or.inl ⟨rfl, ?_⟩)⟩
            rintro ⟨k, k1, k2⟩
            rcases Nat.lt_trichotomy k (t - 1) with z | z | z
            · exact h1 (k1 _ z)
            · subst z; omega
            · have := ht2 k (by omega); omega
          · rw [if_neg h2]
            exact Or.inl ⟨_, rfl, Or.inl ⟨rfl, t - 1, fun j hj => ht2 j (by omega), by omega⟩⟩) n ((nu co f : Int) - 1) ⟨nu co f, rfl, by omega, fun j hj => by rw [nu_hi P f hj, nu_hi P g (by omega)]⟩ (by omega)
    rw [hr, bs]
    rcases hr2 with ⟨q, h⟩ | ⟨q, h⟩ | ⟨q, h⟩
    · rw [q]; exact Or.inl ⟨h, rfl⟩
    · rw [q]; exact Or.inr ⟨h, rfl⟩
    · rw [q]; exact Or.inr ⟨by rw [h]; exact ltz_irr g, rfl⟩
  · rw [if_neg he, bs, bs, gI_s (by omega) (by omega), bs]
    by_cases h2 : (nu co g : Int) - 1 ≤ (nu co f : Int) - 1
    · rw [if_pos h2]
      refine Or.inr ⟨?_, rfl⟩
      rintro ⟨k, k1, k2⟩
      rcases Nat.lt_trichotomy k (nu co f - 1) with z | z | z
      · have := k1 _ z
        rw [nu_hi P g (by omega)] at this
        omega
      · rw [z, nu_hi P g (by omega)] at k2
        omega
      · rw [nu_hi P f (by omega), nu_hi P g (by omega)] at k2
        omega
    · rw [if_neg h2]
      refine Or.inl ⟨⟨nu co g - 1, fun j hj => by rw [nu_hi P f (by omega), nu_hi P g (by omega)], ?_⟩, rfl⟩
      rw [nu_hi P f (by omega)]
      exact lg
def PM {S : Type} (k : Nat) (fo fo' : Nat → S) : Prop := (∀ i, i < k → ∃ j, j < k ∧ fo' i = fo j) ∧ (∀ j, j < k → ∃ i, i < k ∧ fo' i = fo j) ∧ ∀ i j, i < j → j < k → fo' i ≠ fo' j
def sw {S : Type} (fo : Nat → S) (j : Nat) : Nat → S := fun i => if i = j then fo (j - 1) else if i = j - 1 then fo j else fo i
theorem sw_1 {S : Type} (fo : Nat → S) (j : Nat) : sw fo j j = fo (j - 1) := if_pos rfl
theorem sw_2 {S : Type} (fo : Nat → S) {j : Nat} (h : 1 ≤ j) : sw fo j (j - 1) = fo j := by unfold sw; rw [if_neg (by omega), if_pos rfl]
theorem sw_3 {S : Type} (fo : Nat → S) {j i : Nat} (h1 : i ≠ j) (h2 : i ≠ j - 1) : sw fo j i = fo i := by unfold sw; rw [if_neg h1, if_neg h2]
theorem PM_sw {S : Type} {k : Nat} {fo fo' : Nat → S} (h : PM k fo fo') {j : Nat} (h1 : 1 ≤ j) (h2 : j < k) : PM k fo (sw fo' j) := by
  obtain ⟨a, b, c⟩ := h
  have cc : ∀ i l, i < k → l < k → i ≠ l → fo' i ≠ fo' l := fun i l hi hl hne => by
    rcases Nat.lt_or_ge i l with z | z
    · exact c i l z hl
    · exact fun e => c l i (by omega) hi e.symm
  refine ⟨fun i hi => ?_, fun l hl => ?_, fun i l hil hl => ?_⟩
  · by_cases z : i = j
    · rw [z, sw_1]; exact a _ (by omega)
    · by_cases y : i = j - 1
      · rw [y, sw_2 _ h1]; exact a _ h2
      · rw [sw_3 _ z y]; exact a _ hi
  · obtain ⟨i, hi, e⟩ := b l hl
    by_cases z : i = j
    · exact ⟨j - 1, by omega, by rw [sw_2 _ h1, ← z]; exact e⟩
    · by_cases y : i = j - 1
      · exact ⟨j, h2, by rw [sw_1, ← y]; exact e⟩
      · exact ⟨i, hi, by rw [sw_3 _ z y]; exact e⟩
  · have ev : ∀ x, x < k → ∃ y, y < k ∧ sw fo' j x = fo' y ∧ ((x = j ∧ y = j - 1) ∨ (x = j - 1 ∧ x ≠ j ∧ y = j) ∨ (x ≠ j ∧ x ≠ j - 1 ∧ y = x)) := fun x hx => by
      by_cases z : x = j
      · exact ⟨j - 1, by omega, by rw [z, sw_1], Or.inl ⟨z, rfl⟩⟩
      · by_cases y : x = j - 1
        · exact ⟨j, h2, by rw [y, sw_2 _ h1], Or.inr (Or.inl ⟨y, z, rfl⟩)⟩
        · exact ⟨x, hx, sw_3 _ z y, Or.inr (Or.inr ⟨z, y, rfl⟩)⟩
    obtain ⟨y1, q1, q2, q3⟩ := ev i (by omega)
    obtain ⟨y2, r1, r2, r3⟩ := ev l hl
    rw [q2, r2]
    exact cc y1 y2 q1 r1 (by omega)
theorem s_sortI {S : Type} [Lean.Grind.CommRing S] {co : S → Nat → Int} (P : isPol co) {k i : Nat} (hk : k ≤ 10) (hi1 : 1 ≤ i) (hik : i < k) {fo : Nat → S} (hpos : ∀ j, j < k → 0 < co (fo j) (nu co (fo j) - 1)) {M0 M : MI} {f1 : Nat → S} (hM : ok M) (hc0 : chm RSW [] M0 M) (hFR : FR co M k f1) (hPM : PM k fo f1) (hso : ∀ a b, a < b → b < i → ltz co (f1 a) (f1 b)) {n : Nat} (hn : 18446744073709551616 ≤ n) : ∃ M' f2, lpF (l_X8_sort_12 n) n (M, (i : Int)) = some M' ∧ ok M' ∧ chm RSW [] M0 M' ∧ FR co M' k f2 ∧ PM k fo f2 ∧ ∀ a b, a < b → b < i + 1 → ltz co (f2 a) (f2 b) := by
  obtain ⟨M', hL, h1, h2, f2, h3, h4, h5⟩ := lp_do (step := l_X8_sort_12 n) (fun st => ok st.1 ∧ chm RSW [] M0 st.1 ∧ ∃ (f1 : Nat → S) (j : Nat), st.2 = j ∧ j ≤ i ∧ FR co st.1 k f1 ∧ PM k fo f1 ∧ (∀ a b, a < b → b < i + 1 → a ≠ j → b ≠ j → ltz co (f1 a) (f1 b)) ∧ ∀ b, j < b → b < i + 1 → ltz co (f1 j) (f1 b)) (fun st => st.2.toNat) (fun M' => ok M' ∧ chm RSW [] M0 M' ∧ ∃ f2, FR co M' k f2 ∧ PM k fo f2 ∧ ∀ a b, a < b → b < i + 1 → ltz co (f2 a) (f2 b)) (fun st hst => by
    obtain ⟨M1, y⟩ := st
    obtain ⟨k1, k2, f1, j, hy, hji, hFR, hPM, hs1, hs2⟩ := hst
    dsimp only at k1 k2 hy hFR
    subst hy
    unfold l_X8_sort_12
    dsimp only
    rw [gI_s (by omega) (by omega), bs]
    by_cases h0 : (j : Int) ≤ 0
    · rw [if_pos h0]
      refine Or.inl ⟨_, rfl, k1, k2, f1, hFR, hPM, fun a b hab hb => ?_⟩
      by_cases z : a = j
      · rw [z]; exact hs2 b (by omega) hb
      · exact hs1 a b hab hb z (by omega)
    · rw [if_neg h0]
      have hp : ∀ x, x < k → 0 < co (f1 x) (nu co (f1 x) - 1) := fun x hx => by obtain ⟨l, hl, e⟩ := hPM.1 x hx; rw [e]; exact hpos l hl
      obtain ⟨ra, na⟩ := hFR.2 j (by omega)
      obtain ⟨rb, nb⟩ := hFR.2 (j - 1) (by omega)
      have e40 : (40 : Int) + j = ((40 + j : Nat) : Int) := by omega
      have e39 : (40 : Int) + j - 1 = ((40 + (j - 1) : Nat) : Int) := by omega
      rw [e39, e40]
      have hb := s_before P k1 (a := 40 + j) (b := 40 + (j - 1)) (by omega) (by omega) ra rb (by omega) (by omega) (hp j (by omega)) (hp (j - 1) (by omega)) hn
      rcases hb with ⟨hlt, eb⟩ | ⟨hnlt, eb⟩
      · rw [eb, bs, gI_s (by omega) (by omega), bs, if_neg (by omega)]
        obtain ⟨M2, e2, hok2, hc2, r2⟩ := s_copyZ k1 (a := 40 + j) (b := 11) (by omega) (by omega) ra (by omega) hn
        have e2' : f_X8_copy n ((40 + j : Nat) : Int) 11 M1 = some M2 := e2
        have rb2 := RZ_chg rb hc2 (by simp; omega) (by omega)
        obtain ⟨M3, e3, hok3, hc3, r3⟩ := s_copyZ hok2 (a := 40 + (j - 1)) (b := 40 + j) (by omega) (by omega) rb2 (by omega) hn
        have r23 := RZ_chg r2 hc3 (by simp; omega) (by omega)
        obtain ⟨M4, e4, hok4, hc4, r4⟩ := s_copyZ hok3 (a := 11) (b := 40 + (j - 1)) (by omega) (by omega) r23 (by omega) hn
        have e4' : f_X8_copy n 11 ((40 + (j - 1) : Nat) : Int) M3 = some M4 := e4
        rw [e2', bs, e3, bs, e4', bs]
        have hcc : chg [11, 40 + j, 40 + (j - 1)] M1 M4 := chg_mono (chg_trans hc2 (chg_trans hc3 hc4)) (fun x hx => by simp at hx ⊢; omega)
        refine Or.inr ⟨_, rfl, ⟨hok4, chm_mono (chm_trans k2 (chm_of hcc)) (fun x hx => by simp [RSW] at hx ⊢; omega) (fun x hx => hx), sw f1 j, j - 1, by dsimp only; omega, by omega, ⟨?_, fun x hx => ?_⟩, PM_sw hPM (by omega) (by omega), fun a b hab hb ha hbj => ?_, fun b hb1 hb2 => ?_⟩, by dsimp only; omega⟩
        · dsimp only; rw [hcc.2.1 36 11 (by omega)]; exact hFR.1
        · dsimp only
          by_cases z : x = j
          · rw [z, sw_1]
            exact ⟨RZ_chg r3 hc4 (by simp; omega) (by omega), nb⟩
          · by_cases w : x = j - 1
            · rw [w, sw_2 _ (by omega)]
              exact ⟨r4, na⟩
            · rw [sw_3 _ z w]
              obtain ⟨a1, a2⟩ := hFR.2 x hx
              exact ⟨RZ_chg a1 hcc (by simp; omega) (by omega), a2⟩
        · by_cases z : a = j
          · rw [z, sw_1, sw_3 _ (by omega) (by omega)]
            exact hs1 (j - 1) b (by omega) hb (by omega) (by omega)
          · rw [sw_3 _ z ha]
            by_cases w : b = j
            · rw [w, sw_1]; exact hs1 a (j - 1) (by omega) (by omega) (by omega) (by omega)
            · rw [sw_3 _ w hbj]; exact hs1 a b hab hb (by omega) w
        · rw [sw_2 _ (by omega)]
          by_cases w : b = j
          · rw [w, sw_1]; exact hlt
          · rw [sw_3 _ w (by omega)]; exact hs2 b (by omega) hb2
      · rw [eb, bs, gI_s (by omega) (by omega), bs, if_pos rfl]
        have hlt : ltz co (f1 (j - 1)) (f1 j) := by
          rcases ltz_tri P (hPM.2.2 (j - 1) j (by omega) (by omega)) with z | z
          · exact z
          · exact absurd z hnlt
        refine Or.inl ⟨_, rfl, k1, k2, f1, hFR, hPM, fun a b hab hb => ?_⟩
        by_cases z : a = j
        · rw [z]; exact hs2 b (by omega) hb
        · by_cases w : b = j
          · rw [w]
            by_cases v : a = j - 1
            · rw [v]; exact hlt
            · exact ltz_trans (hs1 a (j - 1) (by omega) (by omega) z (by omega)) hlt
          · exact hs1 a b hab hb z w) n (M, (i : Int)) ⟨hM, hc0, f1, i, rfl, by omega, hFR, hPM, fun a b hab hb ha hb2 => hso a b hab (by omega), fun b h1 h2 => absurd h1 (by omega)⟩ (by dsimp only; omega)
  exact ⟨M', f2, hL, h1, h2, h3, h4, h5⟩
theorem s_sort {S : Type} [Lean.Grind.CommRing S] {co : S → Nat → Int} (P : isPol co) {k : Nat} (hk : k ≤ 10) {fo : Nat → S} (hpos : ∀ j, j < k → 0 < co (fo j) (nu co (fo j) - 1)) (hinj : ∀ i j, i < j → j < k → fo i ≠ fo j) {M : MI} (hM : ok M) (hFR : FR co M k fo) {n : Nat} (hn : 18446744073709551616 ≤ n) : ∃ M' f2, f_X8_sort n M = some M' ∧ ok M' ∧ chm RSW [] M M' ∧ FR co M' k f2 ∧ PM k fo f2 ∧ ∀ a b, a < b → b < k → ltz co (f2 a) (f2 b) := by
  obtain ⟨M', hL, h1, h2, f2, h3, h4, h5⟩ := lp_do (step := l_X8_sort_2 n) (fun st => ok st.1 ∧ chm RSW [] M st.1 ∧ ∃ (f1 : Nat → S) (i : Nat), st.2 = i ∧ 1 ≤ i ∧ (i ≤ k ∨ i = 1) ∧ FR co st.1 k f1 ∧ PM k fo f1 ∧ (∀ a b, a < b → b < i → b < k → ltz co (f1 a) (f1 b))) (fun st => (20 - st.2).toNat) (fun M' => ok M' ∧ chm RSW [] M M' ∧ ∃ f2, FR co M' k f2 ∧ PM k fo f2 ∧ ∀ a b, a < b → b < k → ltz co (f2 a) (f2 b)) (fun st hst => by
    obtain ⟨M1, y⟩ := st
    obtain ⟨k1, k2, f1, i, hy, hi1, hik, hFR, hPM, hs⟩ := hst
    dsimp only at k1 k2 hy hFR
    subst hy
    unfold l_X8_sort_2
    dsimp only
    rw [hFR.1, gI_s (by omega) (by omega), bs]
    by_cases hle : (k : Int) ≤ i
    · rw [if_pos hle]
      exact Or.inl ⟨_, rfl, k1, k2, f1, hFR, hPM, fun a b hab hb => hs a b hab (by omega) hb⟩
    · obtain ⟨M2, f2, e2, hok2, hc2, hFR2, hPM2, hs2⟩ := s_sortI P hk hi1 (by omega) hpos k1 k2 hFR hPM (fun a b hab hb => hs a b hab hb (by omega)) hn
      rw [if_neg hle, e2, bs]
      exact Or.inr ⟨_, rfl, ⟨hok2, hc2, f2, i + 1, by dsimp only; omega, by omega, by omega, hFR2, hPM2, fun a b hab hb _ => hs2 a b hab hb⟩, by dsimp only; omega⟩) n (M, 1) ⟨hM, chm_refl _ _ _, fo, 1, rfl, by omega, by omega, hFR, ⟨fun i hi => ⟨i, hi, rfl⟩, fun j hj => ⟨j, hj, rfl⟩, hinj⟩, fun a b hab hb => absurd hb (by omega)⟩ (by dsimp only; omega)
  refine ⟨M', f2, ?_, h1, h2, h3, h4, h5⟩
  unfold f_X8_sort
  rw [hL, bs]
end MSort
