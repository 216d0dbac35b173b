/-! rest, the whole of it -/
section MRef8
theorem wv_sbM {M : MI} {a b k j : Nat} {q m : Int} {s i : Nat} (hi : i < 24) (hkj : k + j ≤ 24) : wv (sbM M a b k q m j) s i = if s = a ∧ k ≤ i ∧ i < k + j then (wv M a i - q * wv M b (i - k)) % m else wv M s i := by
  show (sbM M a b k q m j).1 41 (24 * s + i) = _
  unfold sbM
  dsimp only
  by_cases h : s = a ∧ k ≤ i ∧ i < k + j
  · rw [if_pos h, if_pos ⟨rfl, by omega, by omega⟩, h.1, show 24 * a + i - (24 * a + k) = i - k by omega]
  · rw [if_neg h, if_neg (fun z => h ⟨by omega, by omega, by omega⟩)]
theorem s_rest {T R : Type} [Lean.Grind.CommRing T] [Lean.Grind.CommRing R] {ct : T → Nat → R} (K : isPol ct) {p : Nat} (hp : isZp R p) {φ : Int → R} (hφ : isRed φ p) {M : MI} (hM : ok M) {a b : Nat} (ha : a < 60) (hb : b < 60) (hab : a ≠ b) (ha3 : a ≠ 3) (hb3 : b ≠ 3) (hm : M.1 36 9 = p) (hm2 : p ≤ 1000000000000) {f g : T} (hf : RP ct φ p M a f) (hg : RP ct φ p M b g) (hNf : nu ct f ≤ 24) (hNg : nu ct g ≤ 24) (hg0 : nu ct g ≠ 0) (hg1 : ct g (nu ct g - 1) = 1) {n : Nat} (hn : 18446744073709551616 ≤ n) : ∃ M' q r, f_X8_rest n a b M = some M' ∧ ok M' ∧ chg [a, 3] M M' ∧ f = q * g + r ∧ nu ct r < nu ct g ∧ RP ct φ p M' a r ∧ (nu ct g ≤ nu ct f + 1 → RP ct φ p M' 3 q) := by
  have hp2 := hp.1.1
  obtain ⟨tp, htp⟩ : ∃ t : Int, t = (nu ct f : Int) - 1 := ⟨_, rfl⟩
  obtain ⟨D, hD⟩ : ∃ D : Nat, D = nu ct g - 1 := ⟨_, rfl⟩
  have hda : dg M a = tp := by rw [htp]; exact hf.1
  have hdb : dg M b = D := by rw [hg.1]; omega
  have hb' : b ∉ [a, 3] := by simp; exact ⟨fun z => hab z.symm, hb3⟩
  obtain ⟨M20, hL, hok, hch, hda2, q, r, hfq, hr1, hr2, hq1, hq2⟩ := lp_do (step := l_X8_rest_17 n a b) (fun st => ok st.1 ∧ chg [a, 3] M st.1 ∧ dg st.1 a = tp ∧ st.2 ≤ tp - D ∧ (-1 ≤ st.2 ∨ st.2 = tp - D) ∧ ∃ q r : T, f = q * g + r ∧ (∀ j : Nat, (j : Int) ≤ tp → 0 ≤ wv st.1 a j ∧ wv st.1 a j < p ∧ φ (wv st.1 a j) = ct r j) ∧ (∀ j : Nat, st.2 + D < j → ct r j = 0) ∧ (∀ j : Nat, st.2 < j → (j : Int) ≤ tp - D → 0 ≤ wv st.1 3 j ∧ wv st.1 3 j < p ∧ φ (wv st.1 3 j) = ct q j) ∧ (∀ j : Nat, ((j : Int) ≤ st.2 ∨ tp - D < j) → ct q j = 0)) (fun st => (st.2 + 1).toNat) (fun M20 => ok M20 ∧ chg [a, 3] M M20 ∧ dg M20 a = tp ∧ ∃ q r : T, f = q * g + r ∧ (∀ j : Nat, (j : Int) ≤ tp → 0 ≤ wv M20 a j ∧ wv M20 a j < p ∧ φ (wv M20 a j) = ct r j) ∧ (∀ j : Nat, ((D : Int) ≤ j ∨ tp < j) → ct r j = 0) ∧ (∀ j : Nat, (j : Int) ≤ tp - D → 0 ≤ wv M20 3 j ∧ wv M20 3 j < p ∧ φ (wv M20 3 j) = ct q j) ∧ (∀ j : Nat, tp - D < j → ct q j = 0)) (fun st hst => by
    obtain ⟨M3, v⟩ := st
    obtain ⟨h1, h2, h3, h4, h5, q, r, e1, e2, e3, e4, e5⟩ := hst
    dsimp only at h1 h2 h3 h4 h5 e2 e3 e4 e5
    unfold l_X8_rest_17
    dsimp only
    rw [gI_s (by omega) (by omega), bs]
    by_cases hv : v < 0
    · rw [if_pos hv]
      exact Or.inl ⟨_, rfl, h1, h2, h3, q, r, e1, e2, fun j hj => e3 j (by omega), fun j hj => e4 j (by omega) hj, fun j hj => e5 j (Or.inr hj)⟩
    · obtain ⟨k, rfl⟩ : ∃ k : Nat, v = k := ⟨v.toNat, by omega⟩
      have hd3 : dg M3 b = D := by rw [h2.2.2.2 b hb']; exact hdb
      have hd3' : M3.2 42 b = (D : Int) := hd3
      obtain ⟨x, hx⟩ : ∃ x, x = wv M3 a (k + D) := ⟨_, rfl⟩
      obtain ⟨x1, x2, x3⟩ := e2 (k + D) (by omega)
      rw [← hx] at x1 x2 x3
      have ex : M3.1 41 (24 * a + k + D) = x := by rw [hx]; show _ = M3.1 41 (24 * a + (k + D)); rw [show 24 * a + (k + D) = 24 * a + k + D by omega]
      rw [if_neg hv, odI_n b rfl rfl (by rw [k42.2]; exact hb), bs, hd3', odJ_n (24 * a + k + D) rfl (by omega) (by rw [k41.2]; omega), bs, ex, osJ_n (24 * 3 + k) rfl (by omega) (by rw [k41.2]; omega), bs]
      obtain ⟨M4, hM4⟩ : ∃ M4, M4 = oJ M3 41 (24 * 3 + k) x := ⟨_, rfl⟩
      rw [← hM4]
      have hok4 : ok M4 := by rw [hM4]; exact ok_oJ h1 (by omega)
      have hw4 : ∀ s i : Nat, i < 24 → wv M4 s i = if s = 3 ∧ i = k then x else wv M3 s i := fun s i hi => by rw [hM4]; exact wv_oJ (by omega) x hi
      have hm4 : M4.1 36 9 = p := by rw [hM4, oJ_1, if_neg (by omega), h2.1 36 9 (by omega)]; exact hm
      have hd4 : dg M4 b = D := by rw [hM4]; exact hd3
      have hL := s_restI hok4 ha hb hab (k := k) hm4 (by omega) (by omega) x1 x2 (by omega) (by omega) (fun j hj => by
        rw [hw4 a j (by omega), if_neg (fun z => ha3 z.1)]
        exact ⟨(e2 j (by omega)).1, (e2 j (by omega)).2.1⟩) (fun j hj => by
        rw [hw4 b j (by omega), if_neg (fun z => hb3 z.1), h2.2.2.1 b j hb' (by omega)]
        exact ⟨(hg.2 j (by omega)).1, (hg.2 j (by omega)).2.1⟩) hn
      rw [hL, bs]
      have eD1 : (dg M4 b + 1).toNat = D + 1 := by omega
      rw [eD1]
      have hwb : ∀ j : Nat, j < 24 → wv M4 b j = wv M b j := fun j hj => by rw [hw4 b j hj, if_neg (fun z => hb3 z.1), h2.2.2.1 b j hb' hj]
      have hw5 : ∀ s i : Nat, i < 24 → wv (sbM M4 a b k x p (D + 1)) s i = if s = a ∧ k ≤ i ∧ i < k + (D + 1) then (wv M4 a i - x * wv M4 b (i - k)) % p else wv M4 s i := fun s i hi => wv_sbM hi (by omega)
      refine Or.inr ⟨_, rfl, ⟨?_, ?_, ?_, by dsimp only; omega, by dsimp only; omega, q + mo K (ct r (k + D)) k, r - mo K (ct r (k + D)) k * g, by rw [e1]; grind, fun j hj => ?_, fun j hj => ?_, fun j hj1 hj2 => ?_, fun j hj => ?_⟩, by dsimp only; omega⟩
      · exact ⟨fun kk i => by
          unfold sbM; dsimp only
          split
          · have := Int.emod_nonneg (M4.1 41 i - x * M4.1 41 (24 * b + (i - (24 * a + k)))) (show (p : Int) ≠ 0 by omega)
            have := Int.emod_lt_of_pos (M4.1 41 i - x * M4.1 41 (24 * b + (i - (24 * a + k)))) (show (0 : Int) < p by omega)
            omega
          · exact hok4.1 kk i, hok4.2⟩
      · refine ⟨fun kk i hkk => ?_, fun kk i hkk => ?_, fun s i hs hi => ?_, fun s hs => ?_⟩
        · unfold sbM; dsimp only
          rw [if_neg (fun z => hkk z.1), hM4, oJ_1, if_neg (fun z => hkk z.1)]
          exact h2.1 kk i hkk
        · show M4.2 kk i = _
          rw [hM4]; exact h2.2.1 kk i hkk
        · simp at hs
          rw [hw5 s i hi, if_neg (fun z => hs.1 z.1), hw4 s i hi, if_neg (fun z => hs.2 z.1)]
          exact h2.2.2.1 s i (by simp; exact hs) hi
        · show M4.2 42 s = _
          rw [hM4]; exact h2.2.2.2 s hs
      · show M4.2 42 a = _
        rw [hM4]; exact h3
      · (try dsimp only at hj)
        obtain ⟨y1, y2, y3⟩ := e2 j hj
        rw [hw5 a j (by omega), p_sub K, mo_mul K]
        have hw4a : wv M4 a j = wv M3 a j := by rw [hw4 a j (by omega), if_neg (fun z => ha3 z.1)]
        by_cases hin : k ≤ j ∧ j < k + (D + 1)
        · rw [if_pos ⟨rfl, hin⟩, if_pos hin.1, hw4a, hwb (j - k) (by omega)]
          refine ⟨Int.emod_nonneg _ (by omega), Int.emod_lt_of_pos _ (by omega), ?_⟩
          rw [red_md hφ, red_sub hφ, hφ.2.1, y3, x3, (hg.2 (j - k) (by omega)).2.2]
        · rw [if_neg (fun z => hin z.2), hw4a]
          refine ⟨y1, y2, ?_⟩
          rw [y3]
          by_cases hk : k ≤ j
          · rw [if_pos hk, nu_hi K g (by omega)]; grind
          · rw [if_neg hk]; grind
      · (try dsimp only at hj)
        rw [p_sub K, mo_mul K, if_pos (by omega)]
        by_cases hjk : j = k + D
        · rw [hjk, show k + D - k = nu ct g - 1 by omega, hg1]; grind
        · rw [e3 j (by omega), nu_hi K g (by omega)]; grind
      · dsimp only at hj1
        rw [hw5 3 j (by omega), if_neg (fun z => ha3 z.1.symm), hw4 3 j (by omega), p_add K, mo_co K]
        by_cases hjk : j = k
        · rw [if_pos ⟨rfl, hjk⟩, if_pos hjk, hjk, e5 k (Or.inl (by omega))]
          exact ⟨x1, x2, by rw [x3]; grind⟩
        · rw [if_neg (fun z => hjk z.2), if_neg hjk]
          obtain ⟨y1, y2, y3⟩ := e4 j (by omega) hj2
          exact ⟨y1, y2, by rw [y3]; grind⟩
      · (try dsimp only at hj)
        rw [p_add K, mo_co K, if_neg (by omega), e5 j (by omega)]; grind) n (M, tp - D) ⟨hM, chg_refl _ _, hda, by dsimp only; omega, Or.inr rfl, 0, f, by grind, fun j hj => hf.2 j (by omega), fun j hj => nu_hi K f (by dsimp only at hj; omega), fun j hj1 hj2 => by dsimp only at hj1; omega, fun j _ => p_zero K j⟩ (by dsimp only; omega)
  have hdb20 : M20.2 42 b = (D : Int) := by
    have := hch.2.2.2 b hb'
    rw [hdb] at this
    exact this
  have ht3 : ∃ d M21, M21 = oI M20 42 3 d ∧ f_X8_trim n 3 (tp - D) M20 = some M21 ∧ ok M21 ∧ (nu ct g ≤ nu ct f + 1 → RP ct φ p M21 3 q) := by
    by_cases hc : -1 ≤ tp - D
    · obtain ⟨t1, t2, t3⟩ := s_trimP K hφ hok (s := 3) (by omega) (t := tp - D) (by omega) hc hq1 hq2 hn
      exact ⟨_, _, rfl, t1, t3, fun _ => t2⟩
    · obtain ⟨d, t1, t2, t3, _, _⟩ := s_trim hok (s := 3) (by omega) (t := tp - D) (by omega) (by omega) (n := n) (by omega)
      exact ⟨d, _, rfl, t1, ok_oI hok (by omega), fun z => by omega⟩
  obtain ⟨d, M21, hM21, hT, hok21, hRP3⟩ := ht3
  have hdb21 : M21.2 42 b = (D : Int) := by rw [hM21, oI_2, if_neg (fun z => hb3 z.2)]; exact hdb20
  have hwv21 : ∀ s i : Nat, wv M21 s i = wv M20 s i := fun s i => by rw [hM21]; rfl
  have hch21 : chg [3] M20 M21 := by rw [hM21]; exact chg_oI d
  obtain ⟨t', ht'⟩ : ∃ t' : Int, t' = (if (D : Int) ≤ tp then (D : Int) - 1 else tp) := ⟨_, rfl⟩
  have ht1 : -1 ≤ t' ∧ t' ≤ tp ∧ t' ≤ 23 ∧ ∀ j : Nat, t' < j → ((D : Int) ≤ j ∨ tp < j) := by
    by_cases z : (D : Int) ≤ tp
    · rw [if_pos z] at ht'
      exact ⟨by omega, by omega, by omega, fun j hj => by omega⟩
    · rw [if_neg z] at ht'
      exact ⟨by omega, by omega, by omega, fun j hj => by omega⟩
  obtain ⟨u1, u2, u3⟩ := s_trimP K hφ hok21 ha (t := t') ht1.2.2.1 ht1.1 (f := r) (fun j hj => by rw [hwv21]; exact hr1 j (by omega)) (fun j hj => hr2 j (ht1.2.2.2 j hj)) hn
  have hNr : nu ct r ≤ D := nu_le K (fun i hi => hr2 i (Or.inl (by omega)))
  have hch22 : chg [a] M21 (oI M21 42 a ((nu ct r : Int) - 1)) := chg_oI _
  refine ⟨oI M21 42 a ((nu ct r : Int) - 1), q, r, ?_, u3, chg_mono (chg_trans (chg_trans hch hch21) hch22) (fun x hx => by simp at hx ⊢; omega), hfq, by omega, u2, fun z => ?_⟩
  · unfold f_X8_rest
    have e1 : M.2 42 a = tp := hda
    have e2 : M.2 42 b = (D : Int) := hdb
    rw [odI_n a rfl rfl (by rw [k42.2]; exact ha), bs, e1, odI_n b rfl rfl (by rw [k42.2]; exact hb), bs, e2, hL, bs, odI_n b rfl rfl (by rw [k42.2]; exact hb), bs, hdb20, hT, bs, odI_n b rfl rfl (by rw [k42.2]; exact hb), bs, hdb21, gI_s (by omega) (by omega), bs]
    have e3 : (if (D : Int) ≤ tp then some ((D : Int) - 1) else some tp) = some t' := by
      rw [ht']
      split
      · rfl
      · rfl
    rw [bs, e3, bs, u1, bs]
  · have hNq : nu ct q ≤ 24 := nu_le K (fun i hi => hq2 i (by omega))
    exact RP_chg (hRP3 z) hch22 (by simp; exact fun w => ha3 w.symm) hNq
end MRef8
