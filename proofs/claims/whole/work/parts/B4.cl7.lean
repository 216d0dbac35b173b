/-! the class's own state: numbers, what is kept -/
section MCl7
theorem c_isSmallPrime {a : Int} (ha : inI a) {n : Nat} (hn : 18446744073709551616 ≤ n) : ((2 ≤ a ∧ a ≤ 97 ∧ prm a.toNat) ∧ f_X7_isSmallPrime n a = some 1) ∨ (¬ (2 ≤ a ∧ a ≤ 97 ∧ prm a.toNat) ∧ f_X7_isSmallPrime n a = some 0) := s_isPrime8 ha hn
theorem cr_i {p : Nat} (h : p < 80) : kd (49 + p) = 1 ∧ kn (49 + p) = 11 := by
  have : ∀ b : Fin 80, kd (49 + b.1) = 1 ∧ kn (49 + b.1) = 11 := by decide
  exact this ⟨p, h⟩
theorem oA7 {i : Int} {k : Nat} (hi : i = (k : Int)) (hk : k < 80) : odA 7 i = some (49 + k) := by
  subst hi
  unfold odA
  rw [if_pos ⟨Or.inl rfl, by omega, show (k : Int) < ((80 : Nat) : Int) by omega⟩, Int.toNat_natCast]
  rfl
noncomputable def po7 {S : Type} [Lean.Grind.CommRing S] {co : S → Nat → Int} (P : isPol co) (M : MI) (p : Nat) : S := cpo P (fun j => M.2 (49 + p) j)
def bd7 (M : MI) : Prop := ∀ p j, p < 80 → j < 11 → nz (M.2 (49 + p) j) ≤ 9999
theorem po7_X {S : Type} [Lean.Grind.CommRing S] {co : S → Nat → Int} (P : isPol co) {M : MI} (h : bd7 M) {p : Nat} (hp : p < 80) (i : Nat) : nz (co (po7 P M p) i) ≤ 9999 := cpo_X P (fun j hj => h p j hp hj) i
theorem po7_N {S : Type} [Lean.Grind.CommRing S] {co : S → Nat → Int} (P : isPol co) (M : MI) (p : Nat) : nu co (po7 P M p) ≤ 11 := cpo_N P _
/-- the reference's memory stays -/
def ko7 (M M' : MI) : Prop := ∀ k i, 36 ≤ k → k ≤ 48 → M'.1 k i = M.1 k i ∧ M'.2 k i = M.2 k i
theorem ko7_refl (M : MI) : ko7 M M := fun _ _ _ _ => ⟨rfl, rfl⟩
theorem ko7_trans {M M' M'' : MI} (h : ko7 M M') (h1 : ko7 M' M'') : ko7 M M'' := fun k i a b => ⟨(h1 k i a b).1.trans (h k i a b).1, (h1 k i a b).2.trans (h k i a b).2⟩
theorem ko7_ch {As : List Nat} {M M' : MI} (h : chJ As M M') (hs : ∀ x ∈ As, ¬ (36 ≤ x ∧ x ≤ 48)) : ko7 M M' := fun k i a b => ⟨h.2 k i (fun z => hs k z ⟨a, b⟩), by rw [h.1]⟩
def sm7 (M M' : MI) : Prop := (∀ p j, p < 80 → M'.2 (49 + p) j = M.2 (49 + p) j) ∧ (∀ i, M'.2 8 i = M.2 8 i) ∧ (∀ i, M'.2 9 i = M.2 9 i) ∧ M'.2 0 1 = M.2 0 1 ∧ M'.2 0 4 = M.2 0 4
theorem sm7_of {M M' : MI} (h : M'.2 = M.2) : sm7 M M' := by unfold sm7; rw [h]; exact ⟨fun _ _ _ => rfl, fun _ => rfl, fun _ => rfl, rfl, rfl⟩
theorem sm7_trans {M M' M'' : MI} (h : sm7 M M') (h1 : sm7 M' M'') : sm7 M M'' := ⟨fun p j a => (h1.1 p j a).trans (h.1 p j a), fun i => (h1.2.1 i).trans (h.2.1 i), fun i => (h1.2.2.1 i).trans (h.2.2.1 i), h1.2.2.2.1.trans h.2.2.2.1, h1.2.2.2.2.trans h.2.2.2.2⟩
def app7 (M M' : MI) (v : Nat → Int) : Prop := M'.2 0 1 = M.2 0 1 + 1 ∧ (∀ (q j : Nat), q < 80 → j < 11 → M'.2 (49 + q) j = if (q : Int) = M.2 0 1 then v j else M.2 (49 + q) j) ∧ (∀ i, M'.2 8 i = M.2 8 i) ∧ (∀ i, M'.2 9 i = M.2 9 i) ∧ M'.2 0 4 = M.2 0 4
theorem sm7_app {M M' M'' : MI} {v : Nat → Int} (h : sm7 M M') (h1 : app7 M' M'' v) : app7 M M'' v := ⟨by rw [h1.1, h.2.2.2.1], fun q j hq hj => by rw [h1.2.1 q j hq hj, h.2.2.2.1, h.1 q j hq], fun i => by rw [h1.2.2.1, h.2.1], fun i => by rw [h1.2.2.2.1, h.2.2.1], by rw [h1.2.2.2.2, h.2.2.2.2]⟩
theorem po7_sm {S : Type} [Lean.Grind.CommRing S] {co : S → Nat → Int} (P : isPol co) {M M' : MI} (h : sm7 M M') {p : Nat} (hp : p < 80) : po7 P M' p = po7 P M p := cpo_congr P (fun j _ => h.1 p j hp)
theorem c_isTooGreat {S : Type} [Lean.Grind.CommRing S] {co : S → Nat → Int} (P : isPol co) {M : MI} (hM : ok M) {a N : Nat} (hka : kd a = 2) (hna : kn a = N) (hN1 : 11 ≤ N) (hN2 : N ≤ 21) {f : S} (hf : ∀ i, i < N → M.1 a i = co f i) (hfN : nu co f ≤ N) {n : Nat} (hn : 18446744073709551616 ≤ n) : (sml co f ∧ f_X7_isTooGreat n a M = some 0) ∨ (¬ sml co f ∧ f_X7_isTooGreat n a M = some 1) := by
  obtain ⟨r, hL, hr⟩ := lp_do (step := l_X7_isTooGreat_2 a M) (fun st => ∃ k : Nat, st = k ∧ k ≤ N ∧ (∀ j, j < k → nz (co f j) ≤ 9999) ∧ ∀ j, 11 ≤ j → j < k → co f j = 0) (fun st => ((N : Int) + 1 - st).toNat) (fun r => (r = .inr () ∧ sml co f) ∨ (r = .inl 1 ∧ ¬ sml co f)) (fun st hst => by
    obtain ⟨k, hk, hkN, h1, h2⟩ := hst
    subst hk
    unfold l_X7_isTooGreat_2
    rw [show olA a = some ((kn a : Nat) : Int) from if_pos (Or.inr hka), bs, hna, gI_s (by omega) (by omega), bs]
    by_cases hlt : (N : Int) ≤ k
    · rw [if_pos hlt]
      have hk : k = N := by omega
      refine Or.inl ⟨_, rfl, Or.inl ⟨rfl, nu_le P (fun i hi => ?_), fun i => ?_⟩⟩
      · rcases Nat.lt_or_ge i N with z | z
        · exact h2 i hi (by omega)
        · exact nu_hi P f (by omega)
      · rcases Nat.lt_or_ge i N with z | z
        · exact h1 i (by omega)
        · rw [nu_hi P f (by omega)]; decide
    · have hw := hf k (by omega)
      have hi := hM.1 a k
      rw [hw] at hi
      rw [if_neg hlt, gI_s (by omega) (by omega), bs]
      obtain ⟨b, hb⟩ : ∃ b : Int, b = if (10 : Int) < k then 0 else 9999 := ⟨_, rfl⟩
      have hbb : 0 ≤ b ∧ b ≤ 9999 := by rw [hb]; split <;> omega
      have eb : (if (10 : Int) < (k : Int) then some (0 : Int) else some 9999) = some b := by rw [hb]; split <;> rfl
      rw [eb, bs, odJ_n k hka rfl (by rw [hna]; omega), bs, hw, gJ_s hi (by omega), bs]
      have hno : ¬ (-b ≤ co f k ∧ co f k ≤ b) → ¬ sml co f := fun h hs => by
        refine h ?_
        rw [hb]
        by_cases z : (10 : Int) < k
        · rw [if_pos z, nu_hi P f (by have := hs.1; omega)]; omega
        · rw [if_neg z]; exact nz_le.mp (hs.2 k)
      by_cases c1 : co f k < -b
      · rw [if_pos c1]
        exact Or.inl ⟨_, rfl, Or.inr ⟨rfl, hno (by omega)⟩⟩
      · rw [if_neg c1, bs, gJ_s hi (by omega), bs]
        by_cases c2 : co f k ≤ b
        · rw [if_pos c2]
          refine Or.inr ⟨_, rfl, ⟨k + 1, by omega, by omega, fun j hj => ?_, fun j hj1 hj2 => ?_⟩, by omega⟩
          · rcases Nat.lt_or_ge j k with z | z
            · exact h1 j z
            · rw [show j = k by omega, nz_le]; omega
          · rcases Nat.lt_or_ge j k with z | z
            · exact h2 j hj1 z
            · rw [show j = k by omega]
              rw [if_pos (by omega)] at hb
              omega
        · rw [if_neg c2]
          exact Or.inl ⟨_, rfl, Or.inr ⟨rfl, hno (by omega)⟩⟩) n 0 ⟨0, rfl, by omega, fun j hj => absurd hj (by omega), fun j _ hj => absurd hj (by omega)⟩ (by omega)
  unfold f_X7_isTooGreat
  rcases hr with ⟨q, h⟩ | ⟨q, h⟩
  · rw [q] at hL
    exact Or.inl ⟨h, by rw [hL, bs]⟩
  · rw [q] at hL
    exact Or.inr ⟨h, by rw [hL, bs]⟩
theorem c_load {M : MI} (hM : ok M) {p a : Nat} (hp : p < 80) (ha : row a) {n : Nat} (hn : 18446744073709551616 ≤ n) : f_X7_load n p a M = some (wrM M a 0 11 (fun j => M.2 (49 + p) j)) := by
  have hL : lpF (l_X7_load_2 p a) n (M, 0) = some (wrM M a 0 11 (fun j => M.2 (49 + p) j)) := by
    have e := lp_for (step := l_X7_load_2 p a) (fun k => (wrM M a 0 k (fun j => M.2 (49 + p) j), (k : Int))) (wrM M a 0 11 (fun j => M.2 (49 + p) j)) 11 n (fun k hk => by
      unfold l_X7_load_2
      dsimp only
      rw [gI_s (by omega) (by omega), bs, if_neg (by omega), oA7 rfl hp, bs, odI_n k (cr_i hp).1 rfl (by rw [(cr_i hp).2]; exact hk), bs, show (wrM M a 0 k (fun j => M.2 (49 + p) j)).2 = M.2 from rfl, gI_s (hM.2 _ _) (by omega), bs, osJ_n k ha.1 rfl (by rw [ha.2]; omega), bs]
      have := wrM_s M a 0 k (fun j => M.2 (49 + p) j)
      rw [Nat.zero_add] at this
      rw [this]
      rfl) (by
      unfold l_X7_load_2
      dsimp only
      rw [gI_s (by omega) (by omega), bs, if_pos (by omega)]) (by omega)
    rw [wrM_0] at e
    exact e
  unfold f_X7_load
  rw [hL, bs]
theorem inJ_I {x : Int} (h : inI x) : inJ x := by omega
theorem c_loadZ {S : Type} [Lean.Grind.CommRing S] {co : S → Nat → Int} (P : isPol co) {M : MI} (hM : ok M) {p a : Nat} (hp : p < 80) (ha : row a) (ha2 : ¬ (36 ≤ a ∧ a ≤ 48)) {n : Nat} (hn : 18446744073709551616 ≤ n) : ∃ M', f_X7_load n p a M = some M' ∧ ok M' ∧ chJ [a] M M' ∧ CZ co M' a (po7 P M p) := ⟨_, c_load hM hp ha hn, ok_wrM hM (fun i _ => inJ_I (hM.2 _ _)), chJ_wr M a 0 11 _, fun i hi => by rw [wrM_1, if_pos (by omega), Nat.sub_zero]; exact (cpo_lo P _ hi).symm, po7_N P M p⟩
theorem c_keep {M : MI} (hM : ok M) {g a : Nat} (hg : M.2 0 1 = g) (hg80 : g < 80) (hka : kd a = 2) (hna : 11 ≤ kn a) {v : Nat → Int} (hv : ∀ j, j < 11 → M.1 a j = v j ∧ inI (v j)) {n : Nat} (hn : 18446744073709551616 ≤ n) : ∃ M', f_X7_keep n a M = some ((g : Int), M') ∧ ok M' ∧ M'.1 = M.1 ∧ (∀ k i, k ≠ 49 + g → ¬ (k = 0 ∧ i = 1) → M'.2 k i = M.2 k i) ∧ M'.2 0 1 = ((g + 1 : Nat) : Int) ∧ ∀ j, j < 11 → M'.2 (49 + g) j = v j := by
  have hL : lpF (l_X7_keep_7 a (M.2 0 1)) n (M, 0) = some (wiM M (49 + g) 0 11 v) := by
    have e := lp_for (step := l_X7_keep_7 a (M.2 0 1)) (fun k => (wiM M (49 + g) 0 k v, (k : Int))) (wiM M (49 + g) 0 11 v) 11 n (fun k hk => by
      obtain ⟨h1, h2⟩ := hv k hk
      unfold l_X7_keep_7
      dsimp only
      rw [gI_s (by omega) (by omega), bs, if_neg (by omega), oA7 hg hg80, bs, odJ_n k hka rfl (by omega), bs, show (wiM M (49 + g) 0 k v).1 = M.1 from rfl, h1, gJ_s (inJ_I h2) (by omega), bs, osI_n k (cr_i hg80).1 rfl (by rw [(cr_i hg80).2]; exact hk), bs]
      have := wiM_s M (49 + g) 0 k v
      rw [Nat.zero_add] at this
      rw [this]
      rfl) (by
      unfold l_X7_keep_7
      dsimp only
      rw [gI_s (by omega) (by omega), bs, if_pos (by omega)]) (by omega)
    rw [wiM_0] at e
    exact e
  have h01 : (wiM M (49 + g) 0 11 v).2 0 1 = g := by rw [wiM_2, if_neg (by omega)]; exact hg
  refine ⟨oI (wiM M (49 + g) 0 11 v) 0 1 ((g : Int) + 1), ?_, ok_oI (ok_wiM hM (fun i hi => (hv i hi).2)) (by omega), rfl, fun k i h1 h2 => ?_, ?_, fun j hj => ?_⟩
  · unfold f_X7_keep
    rw [hL, bs]
    unfold opI
    rw [bs, h01, hg]
  · rw [oI_2, if_neg h2, wiM_2, if_neg (fun z => h1 z.1)]
  · rw [oI_2, if_pos ⟨rfl, rfl⟩]; omega
  · rw [oI_2, if_neg (by omega), wiM_2, if_pos (by omega), Nat.sub_zero]
theorem c_keepA {M : MI} (hM : ok M) {g a : Nat} (hg : M.2 0 1 = g) (hg80 : g < 80) (hka : kd a = 2) (hna : 11 ≤ kn a) {v : Nat → Int} (hv : ∀ j, j < 11 → M.1 a j = v j ∧ inI (v j)) {n : Nat} (hn : 18446744073709551616 ≤ n) : ∃ M', f_X7_keep n a M = some ((g : Int), M') ∧ ok M' ∧ ko7 M M' ∧ app7 M M' v := by
  obtain ⟨M', e, h1, h2, h3, h4, h5⟩ := c_keep hM hg hg80 hka hna hv hn
  refine ⟨M', e, h1, fun k i a b => ⟨by rw [h2], h3 k i (by omega) (by omega)⟩, by rw [h4, hg]; omega, fun q j hq hj => ?_, fun i => h3 8 i (by omega) (by omega), fun i => h3 9 i (by omega) (by omega), h3 0 4 (by omega) (by omega)⟩
  by_cases z : (q : Int) = M.2 0 1
  · rw [if_pos z, show q = g by omega]; exact h5 j hj
  · rw [if_neg z]; exact h3 _ _ (by omega) (by omega)
theorem pt_ge {S : Type} [Lean.Grind.CommRing S] {co : S → Nat → Int} (P : isPol co) (f : S) {i : Nat} (h : nu co f ≤ i) : pt P f i = f := by
  induction h with
  | refl => exact pt_all P f
  | step h ih =>
    rename_i m
    have e : pt P f (m + 1) = pt P f m + mo P (co f m) m := rfl
    have e0 : mo P (co f m) m = 0 := p_ext P (fun t => by
      rw [mo_co P, nu_hi P f h, p_zero P]
      split <;> rfl)
    show pt P f (m + 1) = f
    rw [e, ih, e0]; grind
theorem c_multiply7 {S : Type} [Lean.Grind.CommRing S] {co : S → Nat → Int} (P : isPol co) {M : MI} (hM : ok M) {p q : Nat} (hp : p < 80) (hq : q < 80) (hbd : bd7 M) {n : Nat} (hn : 18446744073709551616 ≤ n) : ∃ M', f_X7_multiply n (49 + p) (49 + q) M = some M' ∧ ok M' ∧ chJ [13] M M' ∧ (∀ i, i < 21 → M'.1 13 i = co (po7 P M p * po7 P M q) i) ∧ nu co (po7 P M p * po7 P M q) ≤ 21 := by
  obtain ⟨f, hf⟩ : ∃ f, f = po7 P M p := ⟨_, rfl⟩
  obtain ⟨g, hg⟩ : ∃ g, g = po7 P M q := ⟨_, rfl⟩
  rw [← hf, ← hg]
  have nf : nu co f ≤ 11 := by rw [hf]; exact po7_N P M p
  have ng : nu co g ≤ 11 := by rw [hg]; exact po7_N P M q
  have xf : ∀ i, nz (co f i) ≤ 9999 := by rw [hf]; exact po7_X P hbd hp
  have xg : ∀ i, nz (co g i) ≤ 9999 := by rw [hg]; exact po7_X P hbd hq
  have wf : ∀ i, i < 11 → M.2 (49 + p) i = co f i := fun i hi => by rw [hf]; exact (cpo_lo P _ hi).symm
  have wg : ∀ i, i < 11 → M.2 (49 + q) i = co g i := fun i hi => by rw [hg]; exact (cpo_lo P _ hi).symm
  have e1 : f_J7_fill_d0a16 n 13 0 M = some (wrM M 13 0 21 (fun _ => 0)) := j_fill (a := 13) rfl (by decide) 0 hn
  have hin : ∀ (i : Nat), i < 11 → ∀ (M1 : MI) (Q : S), ok M1 → M1.2 = M.2 → (∀ t, t < 21 → M1.1 13 t = co Q t) → (∀ t, nz (co Q t) ≤ i * 100000000) → ∃ M', lpF (l_X7_multiply_19 (49 + p) (49 + q) i) n (M1, 0) = some M' ∧ ok M' ∧ chJ [13] M1 M' ∧ (∀ t, t < 21 → M'.1 13 t = co (Q + mo P (co f i) i * g) t) ∧ ∀ t, nz (co (Q + mo P (co f i) i * g) t) ≤ (i + 1 : Nat) * 100000000 := by
    intro i hi M1 Q hM1 h2 hQ hQX
    obtain ⟨V, hV⟩ : ∃ V : Nat → Int, V = fun t => co (Q + mo P (co f i) i * g) (i + t) := ⟨_, rfl⟩
    have hbd : ∀ t, nz (co (Q + mo P (co f i) i * g) t) ≤ (i + 1 : Nat) * 100000000 := fun t => by
      rw [p_add P, mo_mul P]
      have h1 := hQX t
      have h2 : nz (if i ≤ t then co f i * co g (t - i) else 0) ≤ 99980001 := by
        split
        · have := nz_mul_le (xf i) (xg (t - i)); omega
        · decide
      unfold nz at *
      omega
    have hL : lpF (l_X7_multiply_19 (49 + p) (49 + q) i) n (M1, 0) = some (wrM M1 13 i 11 V) := by
      have e := lp_for (step := l_X7_multiply_19 (49 + p) (49 + q) i) (fun j => (wrM M1 13 i j V, (j : Int))) (wrM M1 13 i 11 V) 11 n (fun j hj => by
        have w1 : (wrM M1 13 i j V).1 13 (i + j) = co Q (i + j) := by rw [wrM_1, if_neg (by omega)]; exact hQ _ (by omega)
        have hxf := nz_le.mp (xf i)
        have hxg := nz_le.mp (xg j)
        have eV : co Q (i + j) + co f i * co g j = V j := by rw [hV]; dsimp only; rw [p_add P, mo_mul P, if_pos (by omega), show i + j - i = j by omega]
        unfold l_X7_multiply_19
        dsimp only
        rw [gI_s (by omega) (by omega), bs, if_neg (by omega), odJ_n (k := 13) (i + j) rfl (by omega) (show i + j < 21 by omega), bs, w1, odI_n i (cr_i hp).1 rfl (by rw [(cr_i hp).2]; exact hi), bs, odI_n j (cr_i hq).1 rfl (by rw [(cr_i hq).2]; exact hj), show (wrM M1 13 i j V).2 = M1.2 from rfl, h2, wf i hi, wg j hj, gI_s (by omega) (by omega), bs, bs, gI_s (by omega) (by omega), bs, osJ_n (k := 13) (i + j) rfl (by omega) (show i + j < 21 by omega), bs, eV, wrM_s]
        rfl) (by
        unfold l_X7_multiply_19
        dsimp only
        rw [gI_s (by omega) (by omega), bs, if_pos (by omega)]) (by omega)
      rw [wrM_0] at e
      exact e
    refine ⟨_, hL, ok_wrM hM1 (fun j _ => ?_), chJ_wr M1 13 i 11 V, fun t ht => ?_, hbd⟩
    · have := hbd (i + j)
      rw [hV]; dsimp only
      unfold nz at this
      omega
    · rw [wrM_1]
      by_cases z : i ≤ t ∧ t < i + 11
      · rw [if_pos (by omega), hV]; dsimp only; rw [show i + (t - i) = t by omega]
      · rw [if_neg (by omega), hQ t ht, p_add P, mo_mul P]
        by_cases y : i ≤ t
        · rw [if_pos y, nu_hi P g (by omega)]; omega
        · rw [if_neg y]; omega
  obtain ⟨M15, hL, h1, h2, h3⟩ := lp_do (step := l_X7_multiply_10 n (49 + p) (49 + q)) (fun st => ok st.1 ∧ chJ [13] M st.1 ∧ ∃ i : Nat, st.2 = i ∧ i ≤ 11 ∧ (∀ t, t < 21 → st.1.1 13 t = co (pt P f i * g) t) ∧ ∀ t, nz (co (pt P f i * g) t) ≤ i * 100000000) (fun st => (30 - st.2).toNat) (fun M' => ok M' ∧ chJ [13] M M' ∧ ∀ t, t < 21 → M'.1 13 t = co (f * g) t) (fun st hst => by
    obtain ⟨M1, y⟩ := st
    obtain ⟨k1, k2, i, hy, hi, hw, hX⟩ := hst
    dsimp only at k1 k2 hy hw
    subst hy
    unfold l_X7_multiply_10
    dsimp only
    rw [gI_s (by omega) (by omega), bs]
    by_cases hlt : (11 : Int) ≤ i
    · rw [if_pos hlt]
      have e : pt P f i = f := pt_ge P f (by omega)
      rw [e] at hw
      exact Or.inl ⟨_, rfl, k1, k2, hw⟩
    · obtain ⟨M2, e2, hok2, hc2, hw2, hX2⟩ := hin i (by omega) M1 (pt P f i * g) k1 k2.1 hw hX
      have hpt : pt P f (i + 1) = pt P f i + mo P (co f i) i := rfl
      have hpe : pt P f (i + 1) * g = pt P f i * g + mo P (co f i) i * g := by rw [hpt]; grind
      rw [if_neg hlt, e2, bs]
      refine Or.inr ⟨_, rfl, ⟨hok2, chJ_mono (chJ_trans k2 hc2) (fun x hx => by simpa using hx), i + 1, by dsimp only; omega, by omega, fun t ht => ?_, fun t => ?_⟩, by dsimp only; omega⟩
      · rw [hpe]; exact hw2 t ht
      · rw [hpe]; exact hX2 t) n (wrM M 13 0 21 (fun _ => 0), 0) ⟨ok_wrM hM (fun _ _ => (by decide : inJ 0)), chJ_wr M 13 0 21 _, 0, rfl, by omega, fun t ht => by
      have e : pt P f 0 * g = 0 := by show (0 : S) * g = 0; grind
      rw [e, p_zero P, wrM_1, if_pos (by omega)], fun t => by
      have e : pt P f 0 * g = 0 := by show (0 : S) * g = 0; grind
      rw [e, p_zero P]; decide⟩ (by dsimp only; omega)
  refine ⟨M15, ?_, h1, h2, h3, nu_le P (fun i hi => mul_hi P (fun i hi => nu_hi P f hi) (fun i hi => nu_hi P g hi) i (by omega))⟩
  unfold f_X7_multiply
  have e1' : f_J7_fill_d0a16 n 13 0 M = some (wrM M 13 0 21 (fun _ => 0)) := e1
  rw [e1', bs, hL, bs]
end MCl7
