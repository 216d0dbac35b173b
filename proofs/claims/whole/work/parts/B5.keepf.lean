/-! the class's keepFactors, and its simple methods -/
section MKeepF
theorem k8 : kd 8 = 1 ∧ kn 8 = 10 := ⟨rfl, rfl⟩
theorem k9 : kd 9 = 1 ∧ kn 9 = 10 := ⟨rfl, rfl⟩
def kept7 {S : Type} [Lean.Grind.CommRing S] (co : S → Nat → Int) (M M' : MI) (g k : Nat) (fo : Nat → S) (es : Nat → Nat) : Prop := M'.2 0 1 = ((g + k : Nat) : Int) ∧ M'.2 0 4 = (k : Nat) ∧ (∀ q j, q < 80 → j < 11 → M'.2 (49 + q) j = if g ≤ q ∧ q < g + k then co (fo (q - g)) j else M.2 (49 + q) j) ∧ (∀ i, M'.2 8 i = if i < k then ((g + i : Nat) : Int) else M.2 8 i) ∧ (∀ i, M'.2 9 i = if i < k then ((es i : Nat) : Int) else M.2 9 i)
theorem c_keepFactors {S : Type} [Lean.Grind.CommRing S] {co : S → Nat → Int} (P : isPol co) {M : MI} (hM : ok M) {k g : Nat} (hk : k ≤ 10) (hg : M.2 0 1 = g) (hgk : g + k ≤ 80) {fo : Nat → S} {es : Nat → Nat} (hFR : FRc co M k fo) (hsm : ∀ i, i < k → sml co (fo i)) (hes : ∀ i, i < k → M.2 27 i = (es i : Nat)) {n : Nat} (hn : 18446744073709551616 ≤ n) : ∃ M', f_X7_keepFactors n M = some M' ∧ ok M' ∧ ko7 M M' ∧ kept7 co M M' g k fo es := by
  obtain ⟨M1, hM1⟩ : ∃ M1, M1 = oI M 0 4 (k : Int) := ⟨_, rfl⟩
  have hok1 : ok M1 := by rw [hM1]; exact ok_oI hM (by omega)
  have m11 : M1.1 = M.1 := by rw [hM1]; rfl
  have m12 : ∀ a i, M1.2 a i = if a = 0 ∧ i = 4 then (k : Int) else M.2 a i := fun a i => by rw [hM1, oI_2]
  obtain ⟨M11, hL, h1, h2, h3⟩ := lp_do (step := l_X7_keepFactors_13 n) (fun st => ok st.1 ∧ st.1.1 = M.1 ∧ ∃ t : Nat, st.2 = t ∧ t ≤ k ∧ (∀ a i, a ≠ 8 → a ≠ 9 → a ≠ 0 → ¬ (49 ≤ a ∧ a < 129) → st.1.2 a i = M.2 a i) ∧ st.1.2 0 1 = ((g + t : Nat) : Int) ∧ st.1.2 0 4 = (k : Nat) ∧ (∀ q j, q < 80 → j < 11 → st.1.2 (49 + q) j = if g ≤ q ∧ q < g + t then co (fo (q - g)) j else M.2 (49 + q) j) ∧ (∀ i, st.1.2 8 i = if i < t then ((g + i : Nat) : Int) else M.2 8 i) ∧ (∀ i, st.1.2 9 i = if i < t then ((es i : Nat) : Int) else M.2 9 i)) (fun st => (20 - st.2).toNat) (fun r => ok r ∧ ko7 M r ∧ kept7 co M r g k fo es) (fun st hst => by
    obtain ⟨M2, y⟩ := st
    obtain ⟨a1, a2, t, hy, ht, a3, a4, a5, a6, a7, a8⟩ := hst
    dsimp only at a1 a2 hy a3 a4 a5 a6 a7 a8
    subst hy
    unfold l_X7_keepFactors_13
    dsimp only
    rw [a5, gI_s (by omega) (by omega), bs]
    by_cases hlt : (k : Int) ≤ t
    · rw [if_pos hlt]
      have e : t = k := by omega
      subst e
      exact Or.inl ⟨_, rfl, a1, fun a i x1 x2 => ⟨by rw [a2], a3 a i (by omega) (by omega) (by omega) (by omega)⟩, a4, a5, a6, a7, a8⟩
    · have hr : row (159 + t) := row_i (by omega)
      have hc := hFR.2 t (by omega)
      obtain ⟨M3, e3, b1, b2, b3, b4, b5⟩ := c_keep a1 (a := 159 + t) a4 (by omega) hr.1 (by rw [hr.2]; omega) (v := co (fo t)) (fun j hj => ⟨by rw [a2]; exact hc.1 j hj, by have := nz_le.mp ((hsm t (by omega)).2 j); omega⟩) hn
      rw [if_neg hlt, oA26 rfl (by omega), bs, e3, bs]
      dsimp only
      have h27 : (oI M3 8 t ((g + t : Nat) : Int)).2 27 t = (es t : Nat) := by
        rw [oI_2, if_neg (by omega), b3 27 t (by omega) (by omega), a3 27 t (by omega) (by omega) (by omega) (by omega)]
        exact hes t (by omega)
      have hesI : inI ((es t : Nat) : Int) := by rw [← hes t (by omega)]; exact hM.2 _ _
      rw [osI_n (k := 8) t rfl rfl (show t < 10 by omega), bs, odI_n (k := 27) t rfl rfl (show t < 10 by omega), bs, h27, osI_n (k := 9) t rfl rfl (show t < 10 by omega), bs]
      have hf : ∀ a i, (oI (oI M3 8 t ((g + t : Nat) : Int)) 9 t ((es t : Nat) : Int)).2 a i = if a = 9 ∧ i = t then ((es t : Nat) : Int) else if a = 8 ∧ i = t then ((g + t : Nat) : Int) else M3.2 a i := fun a i => by rw [oI_2, oI_2]
      refine Or.inr ⟨_, rfl, ⟨ok_oI (ok_oI b1 (by omega)) hesI, by rw [← a2, ← b2]; rfl, t + 1, rfl, by omega, fun a i x1 x2 x3 x4 => ?_, ?_, ?_, fun q j hq hj => ?_, fun i => ?_, fun i => ?_⟩, by dsimp only; omega⟩
      · dsimp only; rw [hf, if_neg (by omega), if_neg (by omega), b3 a i (by omega) (by omega)]; exact a3 a i x1 x2 x3 x4
      · dsimp only; rw [hf, if_neg (by omega), if_neg (by omega), b4]; omega
      · dsimp only; rw [hf, if_neg (by omega), if_neg (by omega), b3 0 4 (by omega) (by omega)]; exact a5
      · dsimp only
        rw [hf, if_neg (by omega), if_neg (by omega)]
        by_cases z : q = g + t
        · rw [z, show 49 + (g + t) = 49 + (g + t) from rfl, b5 j hj, if_pos (by omega), show g + t - g = t by omega]
        · rw [b3 _ _ (by omega) (by omega), a6 q j hq hj]
          by_cases w : g ≤ q ∧ q < g + t
          · rw [if_pos w, if_pos (by omega)]
          · rw [if_neg w, if_neg (by omega)]
      · dsimp only
        rw [hf, if_neg (by omega)]
        by_cases z : i = t
        · rw [if_pos ⟨rfl, z⟩, if_pos (by omega), z]
        · rw [if_neg (fun w => z w.2), b3 8 i (by omega) (by omega), a7 i]
          by_cases w : i < t
          · rw [if_pos w, if_pos (by omega)]
          · rw [if_neg w, if_neg (by omega)]
      · dsimp only
        rw [hf]
        by_cases z : i = t
        · rw [if_pos ⟨rfl, z⟩, if_pos (by omega), z]
        · rw [if_neg (fun w => z w.2), if_neg (by omega), b3 9 i (by omega) (by omega), a8 i]
          by_cases w : i < t
          · rw [if_pos w, if_pos (by omega)]
          · rw [if_neg w, if_neg (by omega)]) n (M1, 0) ⟨hok1, m11, 0, rfl, by omega, fun a i _ _ x3 _ => by rw [m12, if_neg (by omega)], by rw [m12, if_neg (by omega)]; exact hg, by rw [m12, if_pos ⟨rfl, rfl⟩], fun q j hq hj => by rw [m12, if_neg (by omega), if_neg (by omega)], fun i => by rw [m12, if_neg (by omega), if_neg (by omega)], fun i => by rw [m12, if_neg (by omega), if_neg (by omega)]⟩ (by dsimp only; omega)
  refine ⟨M11, ?_, h1, h2, h3⟩
  unfold f_X7_keepFactors opI
  rw [hFR.1, bs, ← hM1, hL, bs]
theorem c_reqP {a : Int} (ha : inI a) (M : MI) : f_X7_requirePolynomial a M = if 0 ≤ a ∧ a < 80 then some (.inr M) else some (.inl (1, M)) := by
  unfold f_X7_requirePolynomial
  rw [gI_s ha (by omega), bs]
  by_cases h : a < 0
  · rw [if_pos h, if_neg (by omega)]
  · rw [if_neg h, gI_s ha (by omega), bs]
    by_cases h2 : a < 80
    · rw [if_pos h2, if_pos (by omega)]
    · rw [if_neg h2, if_neg (by omega)]
theorem c_reqK {a : Int} (ha : inI a) (M : MI) : f_X7_requirePower a M = if 0 ≤ a ∧ a < 11 then some (.inr M) else some (.inl (1, M)) := by
  unfold f_X7_requirePower
  rw [gI_s ha (by omega), bs]
  by_cases h : a < 0
  · rw [if_pos h, if_neg (by omega)]
  · rw [if_neg h, gI_s ha (by omega), bs]
    by_cases h2 : a ≤ 10
    · rw [if_pos h2, if_pos (by omega)]
    · rw [if_neg h2, if_neg (by omega)]
theorem c_reqF {a : Int} (ha : inI a) {M : MI} (hM : ok M) : f_X7_requireFactor a M = if 0 ≤ a ∧ a < M.2 0 4 then some (.inr M) else some (.inl (1, M)) := by
  unfold f_X7_requireFactor
  rw [gI_s ha (by omega), bs]
  by_cases h : a < 0
  · rw [if_pos h, if_neg (by omega)]
  · rw [if_neg h, gI_s ha (hM.2 _ _), bs]
    by_cases h2 : a < M.2 0 4
    · rw [if_pos h2, if_pos (by omega)]
    · rw [if_neg h2, if_neg (by omega)]
theorem c_reqN {M : MI} (hM : ok M) : f_X7_requireNumber M = if M.2 0 1 < 80 then some (.inr M) else some (.inl (2, M)) := by
  unfold f_X7_requireNumber
  rw [gI_s (hM.2 _ _) (by omega), bs]
/-- answers: a thrown class or a number -/
def tw7 (c : Nat) (M' : MI) (o : Option ((Nat × MI) ⊕ (Int × MI))) : Prop := o = some (.inl (c, M'))
def an7 (r : Int) (M' : MI) (o : Option ((Nat × MI) ⊕ (Int × MI))) : Prop := o = some (.inr (r, M'))
theorem c_poly7 {M : MI} (hM : ok M) {g : Nat} (hg : M.2 0 1 = g) (hg80 : g ≤ 80) {n : Nat} (hn : 18446744073709551616 ≤ n) : (g = 80 ∧ tw7 2 M (f_X7_poly n M)) ∨ (g < 80 ∧ ∃ M', an7 g M' (f_X7_poly n M) ∧ ok M' ∧ ko7 M M' ∧ app7 M M' (fun _ => 0)) := by
  unfold tw7 an7 f_X7_poly
  rw [c_reqN hM]
  by_cases h : M.2 0 1 < 80
  · have e1 : f_J7_fill_d0a16 n 12 0 M = some (wrM M 12 0 11 (fun _ => 0)) := j_fill (a := 12) rfl (by decide) 0 hn
    obtain ⟨M', e, h1, h2, h3⟩ := c_keepA (M := wrM M 12 0 11 (fun _ => 0)) (ok_wrM hM (fun _ _ => (by decide : inJ 0))) (g := g) (a := 12) hg (by omega) rfl (by decide) (v := fun _ => 0) (fun j hj => ⟨by rw [wrM_1, if_pos (by omega)], by decide⟩) hn
    refine Or.inr ⟨by omega, M', ?_, h1, ko7_trans (ko7_ch (chJ_wr M 12 0 11 _) (by simp)) h2, sm7_app (sm7_of rfl) h3⟩
    rw [if_pos h, bs]
    dsimp only
    rw [e1, bs, e, bs]
  · refine Or.inl ⟨by omega, ?_⟩
    rw [if_neg h, bs]
theorem c_set7 {M : MI} (hM : ok M) {a b c : Int} (ha : inI a) (hb : inI b) (hc : inI c) : (¬ (0 ≤ a ∧ a < 80 ∧ 0 ≤ b ∧ b < 11) ∧ tw7 1 M (f_X7_set a b c M)) ∨ ((0 ≤ a ∧ a < 80 ∧ 0 ≤ b ∧ b < 11) ∧ ¬ (-9999 ≤ c ∧ c ≤ 9999) ∧ tw7 3 M (f_X7_set a b c M)) ∨ ((0 ≤ a ∧ a < 80 ∧ 0 ≤ b ∧ b < 11) ∧ (-9999 ≤ c ∧ c ≤ 9999) ∧ an7 (if M.2 (49 + a.toNat) b.toNat = c then 0 else 1) (oI M (49 + a.toNat) b.toNat c) (f_X7_set a b c M)) := by
  unfold tw7 an7 f_X7_set
  rw [c_reqP ha]
  by_cases h1 : 0 ≤ a ∧ a < 80
  · rw [if_pos h1, bs]
    dsimp only
    rw [c_reqK hb]
    by_cases h2 : 0 ≤ b ∧ b < 11
    · rw [if_pos h2, bs]
      dsimp only
      rw [gI_s hc (by omega), bs]
      by_cases h3 : c < -9999
      · exact Or.inr (Or.inl ⟨by omega, by omega, by rw [if_pos h3]⟩)
      · rw [if_neg h3, gI_s hc (by omega), bs]
        by_cases h4 : c ≤ 9999
        · refine Or.inr (Or.inr ⟨by omega, by omega, ?_⟩)
          have hr := cr_i (p := a.toNat) (by omega)
          rw [if_pos h4, oA7 (k := a.toNat) (by omega) (by omega), bs, odI_n b.toNat hr.1 (by omega) (by rw [hr.2]; omega), bs, gI_s (hM.2 _ _) hc, bs]
          by_cases h5 : M.2 (49 + a.toNat) b.toNat = c
          · rw [if_pos h5, bs, bs, osI_n b.toNat hr.1 (by omega) (by rw [hr.2]; omega), bs, if_pos h5]; rfl
          · rw [if_neg h5, bs, bs, osI_n b.toNat hr.1 (by omega) (by rw [hr.2]; omega), bs, if_neg h5]; rfl
        · exact Or.inr (Or.inl ⟨by omega, by omega, by rw [if_neg h4]⟩)
    · rw [if_neg h2, bs]; exact Or.inl ⟨by omega, rfl⟩
  · rw [if_neg h1, bs]; exact Or.inl ⟨by omega, rfl⟩
theorem c_at7 {M : MI} {a b : Int} (ha : inI a) (hb : inI b) : (¬ (0 ≤ a ∧ a < 80 ∧ 0 ≤ b ∧ b < 11) ∧ tw7 1 M (f_X7_at a b M)) ∨ ((0 ≤ a ∧ a < 80 ∧ 0 ≤ b ∧ b < 11) ∧ an7 (M.2 (49 + a.toNat) b.toNat) M (f_X7_at a b M)) := by
  unfold tw7 an7 f_X7_at
  rw [c_reqP ha]
  by_cases h1 : 0 ≤ a ∧ a < 80
  · rw [if_pos h1, bs]
    dsimp only
    rw [c_reqK hb]
    by_cases h2 : 0 ≤ b ∧ b < 11
    · rw [if_pos h2, bs]
      dsimp only
      have hr := cr_i (p := a.toNat) (by omega)
      rw [oA7 (k := a.toNat) (by omega) (by omega), bs, odI_n b.toNat hr.1 (by omega) (by rw [hr.2]; omega), bs]
      exact Or.inr ⟨by omega, rfl⟩
    · rw [if_neg h2, bs]; exact Or.inl ⟨by omega, rfl⟩
  · rw [if_neg h1, bs]; exact Or.inl ⟨by omega, rfl⟩
theorem c_factor7 {M : MI} (hM : ok M) (h4 : M.2 0 4 ≤ 10) {a : Int} (ha : inI a) : (¬ (0 ≤ a ∧ a < M.2 0 4) ∧ tw7 1 M (f_X7_factor a M)) ∨ ((0 ≤ a ∧ a < M.2 0 4) ∧ an7 (M.2 8 a.toNat) M (f_X7_factor a M)) := by
  unfold tw7 an7 f_X7_factor
  rw [c_reqF ha hM]
  by_cases h1 : 0 ≤ a ∧ a < M.2 0 4
  · rw [if_pos h1, bs]
    dsimp only
    rw [odI_n (k := 8) a.toNat rfl (by omega) (show a.toNat < 10 by omega), bs]
    exact Or.inr ⟨h1, rfl⟩
  · rw [if_neg h1, bs]; exact Or.inl ⟨h1, rfl⟩
theorem c_multiplicity7 {M : MI} (hM : ok M) (h4 : M.2 0 4 ≤ 10) {a : Int} (ha : inI a) : (¬ (0 ≤ a ∧ a < M.2 0 4) ∧ tw7 1 M (f_X7_multiplicity a M)) ∨ ((0 ≤ a ∧ a < M.2 0 4) ∧ an7 (M.2 9 a.toNat) M (f_X7_multiplicity a M)) := by
  unfold tw7 an7 f_X7_multiplicity
  rw [c_reqF ha hM]
  by_cases h1 : 0 ≤ a ∧ a < M.2 0 4
  · rw [if_pos h1, bs]
    dsimp only
    rw [odI_n (k := 9) a.toNat rfl (by omega) (show a.toNat < 10 by omega), bs]
    exact Or.inr ⟨h1, rfl⟩
  · rw [if_neg h1, bs]; exact Or.inl ⟨h1, rfl⟩
theorem c_times7 {S : Type} [Lean.Grind.CommRing S] {co : S → Nat → Int} (P : isPol co) {M : MI} (hM : ok M) (hbd : bd7 M) {g : Nat} (hg : M.2 0 1 = g) (hg80 : g ≤ 80) {a b : Int} (ha : inI a) (hb : inI b) {n : Nat} (hn : 18446744073709551616 ≤ n) : ∃ M', ok M' ∧ ko7 M M' ∧ ((¬ (0 ≤ a ∧ a < 80 ∧ 0 ≤ b ∧ b < 80) ∧ tw7 1 M' (f_X7_times n a b M) ∧ sm7 M M') ∨ ((0 ≤ a ∧ a < 80 ∧ 0 ≤ b ∧ b < 80) ∧ g = 80 ∧ tw7 2 M' (f_X7_times n a b M) ∧ sm7 M M') ∨ ((0 ≤ a ∧ a < 80 ∧ 0 ≤ b ∧ b < 80) ∧ g < 80 ∧ ((¬ sml co (po7 P M a.toNat * po7 P M b.toNat) ∧ tw7 3 M' (f_X7_times n a b M) ∧ sm7 M M') ∨ (sml co (po7 P M a.toNat * po7 P M b.toNat) ∧ an7 g M' (f_X7_times n a b M) ∧ app7 M M' (co (po7 P M a.toNat * po7 P M b.toNat)))))) := by
  unfold tw7 an7 f_X7_times
  rw [c_reqP ha]
  by_cases h1 : 0 ≤ a ∧ a < 80
  · rw [if_pos h1, bs]
    dsimp only
    rw [c_reqP hb]
    by_cases h2 : 0 ≤ b ∧ b < 80
    · rw [if_pos h2, bs]
      dsimp only
      rw [c_reqN hM]
      by_cases h3 : M.2 0 1 < 80
      · rw [if_pos h3, bs]
        dsimp only
        obtain ⟨M1, e1, hok1, hc1, r1, n1⟩ := c_multiply7 P hM (p := a.toNat) (q := b.toNat) (by omega) (by omega) hbd hn
        rw [oA7 (k := a.toNat) (by omega) (by omega), bs, oA7 (k := b.toNat) (by omega) (by omega), bs, e1, bs]
        rcases c_isTooGreat P hok1 (a := 13) (N := 21) rfl rfl (by omega) (by omega) r1 n1 hn with ⟨hs, e2⟩ | ⟨hs, e2⟩
        · obtain ⟨M2, e3, hok2, hk2, ha2⟩ := c_keepA hok1 (g := g) (a := 13) (by rw [hc1.1]; exact hg) (by omega) rfl (by decide) (v := co (po7 P M a.toNat * po7 P M b.toNat)) (fun j hj => ⟨r1 j (by omega), by have := nz_le.mp (hs.2 j); omega⟩) hn
          refine ⟨M2, hok2, ko7_trans (ko7_ch hc1 (by simp)) hk2, Or.inr (Or.inr ⟨by omega, by omega, Or.inr ⟨hs, ?_, sm7_app (sm7_of hc1.1) ha2⟩⟩)⟩
          rw [e2, bs, gI_s (by omega) (by omega), bs, if_pos rfl, e3, bs]
        · refine ⟨M1, hok1, ko7_ch hc1 (by simp), Or.inr (Or.inr ⟨by omega, by omega, Or.inl ⟨hs, ?_, sm7_of hc1.1⟩⟩)⟩
          rw [e2, bs, gI_s (by omega) (by omega), bs, if_neg (by omega)]
      · rw [if_neg h3, bs]; exact ⟨M, hM, ko7_refl M, Or.inr (Or.inl ⟨by omega, by omega, rfl, sm7_of rfl⟩)⟩
    · rw [if_neg h2, bs]; exact ⟨M, hM, ko7_refl M, Or.inl ⟨by omega, rfl, sm7_of rfl⟩⟩
  · rw [if_neg h1, bs]; exact ⟨M, hM, ko7_refl M, Or.inl ⟨by omega, rfl, sm7_of rfl⟩⟩
end MKeepF
