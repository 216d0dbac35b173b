/-! the class's over, content, value, root, roots -/
section MCl7b
theorem z_cancel {S : Type} [Lean.Grind.CommRing S] {co : S → Nat → Int} (P : isPol co) {a b c : S} (ha : a ≠ 0) (h : a * b = a * c) : b = c := by
  apply Classical.byContradiction
  intro hne
  have hd : b - c ≠ 0 := fun z => hne (by grind)
  have h1 := nu_mul P int_D ha hd
  have h2 : a * (b - c) = 0 := by grind
  rw [h2, (nu_zero P).mpr rfl] at h1
  have : nu co a ≠ 0 := fun z => ha ((nu_zero P).mp z)
  have : nu co (b - c) ≠ 0 := fun z => hd ((nu_zero P).mp z)
  omega
theorem c_over7 {S : Type} [Lean.Grind.CommRing S] {co : S → Nat → Int} (P : isPol co) {M : MI} (hM : ok M) (hbd : bd7 M) {g : Nat} (hg : M.2 0 1 = g) (hg80 : g ≤ 80) {a b : Int} (ha : inI a) (hb : inI b) {n : Nat} (hn : 18446744073709551616 ≤ n) : ∃ M', ok M' ∧ ko7 M M' ∧ ((¬ (0 ≤ a ∧ a < 80 ∧ 0 ≤ b ∧ b < 80) ∧ tw7 1 M' (f_X7_over n a b M) ∧ sm7 M M') ∨ ((0 ≤ a ∧ a < 80 ∧ 0 ≤ b ∧ b < 80) ∧ g = 80 ∧ tw7 2 M' (f_X7_over n a b M) ∧ sm7 M M') ∨ ((0 ≤ a ∧ a < 80 ∧ 0 ≤ b ∧ b < 80) ∧ g < 80 ∧ po7 P M b.toNat = 0 ∧ tw7 4 M' (f_X7_over n a b M) ∧ sm7 M M') ∨ ((0 ≤ a ∧ a < 80 ∧ 0 ≤ b ∧ b < 80) ∧ g < 80 ∧ po7 P M b.toNat ≠ 0 ∧ ((∃ q, po7 P M a.toNat = po7 P M b.toNat * q ∧ sml co q ∧ an7 g M' (f_X7_over n a b M) ∧ app7 M M' (co q)) ∨ ((¬ ∃ q, po7 P M a.toNat = po7 P M b.toNat * q ∧ sml co q) ∧ an7 (-1) M' (f_X7_over n a b M) ∧ sm7 M M')))) := by
  unfold tw7 an7 f_X7_over
  rw [c_reqP ha]
  by_cases h1 : 0 ≤ a ∧ a < 80
  · rw [if_pos h1, bs]
    dsimp only
    rw [c_reqP hb]
    by_cases h2 : 0 ≤ b ∧ b < 80
    · rw [if_pos h2, bs]
      dsimp only
      rw [c_reqN hM]
      by_cases h3 : M.2 0 1 < 80
      · rw [if_pos h3, bs]
        dsimp only
        have r10 : row 10 := ⟨rfl, rfl⟩
        have r11 : row 11 := ⟨rfl, rfl⟩
        have r18 : row 18 := ⟨rfl, rfl⟩
        obtain ⟨M1, e1, hok1, hc1, cA⟩ := c_loadZ P hM (p := a.toNat) (a := 10) (by omega) r10 (by omega) hn
        obtain ⟨M2, e2, hok2, hc2, cB⟩ := c_loadZ P hok1 (p := b.toNat) (a := 11) (by omega) r11 (by omega) hn
        rw [show ((a.toNat : Nat) : Int) = a by omega] at e1
        rw [show ((b.toNat : Nat) : Int) = b by omega] at e2
        rw [po7_sm P (sm7_of hc1.1) (by omega)] at cB
        have cA2 := CZ_ch cA hc2 (by simp)
        have xA := po7_X P hbd (p := a.toNat) (by omega)
        have xB := po7_X P hbd (p := b.toNat) (by omega)
        obtain ⟨A, hA⟩ : ∃ A, po7 P M a.toNat = A := ⟨_, rfl⟩
        obtain ⟨B, hB⟩ : ∃ B, po7 P M b.toNat = B := ⟨_, rfl⟩
        rw [hA] at xA cA2 ⊢
        rw [hB] at xB cB ⊢
        have hNB := cB.2
        have hk2 : ko7 M M2 := ko7_trans (ko7_ch hc1 (by simp)) (ko7_ch hc2 (by simp))
        have h22 : M2.2 = M.2 := hc2.1.trans hc1.1
        rw [e1, bs, e2, bs, c_degree P hok2 r11 cB hn, bs, gI_s (by omega) (by omega), bs]
        by_cases h0 : nu co B = 0
        · refine ⟨M2, hok2, hk2, Or.inr (Or.inr (Or.inl ⟨by omega, by omega, (nu_zero P).mp h0, ?_, sm7_of h22⟩))⟩
          rw [if_neg (by omega)]
        · have hB0 : B ≠ 0 := fun z => h0 ((nu_zero P).mpr z)
          rw [if_pos (by omega)]
          obtain ⟨M3, hok3, hc3, hd⟩ := c_divide P hok2 (a := 10) (b := 11) r10 r11 (by omega) (by omega) (by omega) (by omega) cA2 cB (fun i => by have := xB i; omega) (fun i => by have := xA i; omega) hn
          have hk3 : ko7 M M3 := ko7_trans hk2 (ko7_ch hc3 (by simp))
          have h32 : M3.2 = M.2 := hc3.1.trans h22
          rcases hd with ⟨e3, -, q, hq, c18, hqb⟩ | ⟨e3, hno⟩
          · rw [e3, bs]
            dsimp only
            rw [gI_s (by omega) (by omega), bs, if_neg (by omega)]
            rcases c_isTooGreat P hok3 (a := 18) (N := 11) rfl rfl (by omega) (by omega) c18.1 c18.2 hn with ⟨hs, e4⟩ | ⟨hs, e4⟩
            · obtain ⟨M4, e5, hok4, hk4, ha4⟩ := c_keepA hok3 (g := g) (a := 18) (by rw [h32]; exact hg) (by omega) rfl (by decide) (v := co q) (fun j hj => ⟨c18.1 j hj, by have := nz_le.mp (hs.2 j); omega⟩) hn
              refine ⟨M4, hok4, ko7_trans hk3 hk4, Or.inr (Or.inr (Or.inr ⟨by omega, by omega, hB0, Or.inl ⟨q, hq, hs, ?_, sm7_app (sm7_of h32) ha4⟩⟩))⟩
              rw [e4, bs, gI_s (by omega) (by omega), bs, if_pos rfl, e5, bs]
            · refine ⟨M3, hok3, hk3, Or.inr (Or.inr (Or.inr ⟨by omega, by omega, hB0, Or.inr ⟨?_, ?_, sm7_of h32⟩⟩))⟩
              · rintro ⟨q', hq', hs'⟩
                have : q' = q := z_cancel P hB0 (by rw [← hq', ← hq])
                rw [this] at hs'
                exact hs hs'
              · rw [e4, bs, gI_s (by omega) (by omega), bs, if_neg (by omega)]
          · refine ⟨M3, hok3, hk3, Or.inr (Or.inr (Or.inr ⟨by omega, by omega, hB0, Or.inr ⟨?_, ?_, sm7_of h32⟩⟩))⟩
            · rintro ⟨q', hq', hs'⟩
              rcases hno with z | z
              · exact h0 z
              · exact z ⟨q', hq', fun i => by have := hs'.2 i; omega⟩
            · rw [e3, bs]
              dsimp only
              rw [gI_s (by omega) (by omega), bs, if_pos rfl]
      · rw [if_neg h3, bs]; exact ⟨M, hM, ko7_refl M, Or.inr (Or.inl ⟨by omega, by omega, rfl, sm7_of rfl⟩)⟩
    · rw [if_neg h2, bs]; exact ⟨M, hM, ko7_refl M, Or.inl ⟨by omega, rfl, sm7_of rfl⟩⟩
  · rw [if_neg h1, bs]; exact ⟨M, hM, ko7_refl M, Or.inl ⟨by omega, rfl, sm7_of rfl⟩⟩
theorem c_content7 {S : Type} [Lean.Grind.CommRing S] {co : S → Nat → Int} (P : isPol co) {M : MI} (hM : ok M) (hbd : bd7 M) {a : Int} (ha : inI a) {n : Nat} (hn : 18446744073709551616 ≤ n) : ∃ M', ok M' ∧ ko7 M M' ∧ sm7 M M' ∧ ((¬ (0 ≤ a ∧ a < 80) ∧ tw7 1 M' (f_X7_content n a M)) ∨ ((0 ≤ a ∧ a < 80) ∧ an7 (cont co (po7 P M a.toNat)) M' (f_X7_content n a M))) := by
  unfold tw7 an7 f_X7_content
  rw [c_reqP ha]
  by_cases h1 : 0 ≤ a ∧ a < 80
  · rw [if_pos h1, bs]
    dsimp only
    have r10 : row 10 := ⟨rfl, rfl⟩
    obtain ⟨M1, e1, hok1, hc1, cA⟩ := c_loadZ P hM (p := a.toNat) (a := 10) (by omega) r10 (by omega) hn
    rw [show ((a.toNat : Nat) : Int) = a by omega] at e1
    have xA := po7_X P hbd (p := a.toNat) (by omega)
    have hcJ := cont_J P (f := po7 P M a.toNat) (fun i => by have := xA i; omega)
    refine ⟨M1, hok1, ko7_ch hc1 (by simp), sm7_of hc1.1, Or.inr ⟨h1, ?_⟩⟩
    rw [e1, bs, c_signedContent P hok1 r10 cA (fun i => by have := xA i; omega) hn, bs, gJ_s (by omega) (by omega), bs]
  · rw [if_neg h1, bs]; exact ⟨M, hM, ko7_refl M, sm7_of rfl, Or.inl ⟨h1, rfl⟩⟩
theorem c_primF {S : Type} [Lean.Grind.CommRing S] {co : S → Nat → Int} (P : isPol co) {f g : S} (h : (nu co f = 0 ∧ g = f) ∨ (nu co f ≠ 0 ∧ f = mo P (sc co f) 0 * g ∧ prim co g ∧ 0 < co g (nu co g - 1) ∧ nu co g = nu co f ∧ sc co f ≠ 0)) : g = 0 ∨ (prim co g ∧ 0 < co g (nu co g - 1)) := by
  rcases h with ⟨h1, h2⟩ | ⟨-, -, h3, h4, -⟩
  · exact Or.inl (by rw [h2]; exact (nu_zero P).mp h1)
  · exact Or.inr ⟨h3, h4⟩
theorem RSet_sc {S : Type} [Lean.Grind.CommRing S] {co : S → Nat → Int} (P : isPol co) {F0 F : S} {d : Int} (hd : d ≠ 0) (h : F0 = mo P d 0 * F) {k : Nat} {s : Nat → Int × Int} (hR : RSet P F k s) : RSet P F0 k s := ⟨fun i hi => (rt_sc P hd h _).mpr (hR.1 i hi), fun x hx => hR.2.1 x ((rt_sc P hd h x).mp hx), hR.2.2⟩
theorem c_rootsOf {S : Type} [Lean.Grind.CommRing S] {co : S → Nat → Int} (P : isPol co) {M : MI} (hM : ok M) {F0 : S} (hXF : ∀ i, nz (co F0 i) ≤ 9999) (cF : CZ co M 10 F0) {n : Nat} (hn : 18446744073709551616 ≤ n) : ∃ M1 M2 k s, f_X5_makePrimitive n 10 M = some M1 ∧ f_X4_findRoots n 10 M1 = some M2 ∧ ok M2 ∧ ko7 M M2 ∧ sm7 M M2 ∧ RC M2 k s ∧ (F0 = 0 ∧ k = 0 ∨ F0 ≠ 0 ∧ RSet P F0 k s) ∧ k ≤ 10 ∧ ∀ i, i < k → nz (s i).1 ≤ 9999 ∧ 1 ≤ (s i).2 ∧ (s i).2 ≤ 9999 := by
  have r10 : row 10 := ⟨rfl, rfl⟩
  obtain ⟨M1, F, e1, hok1, hc1, c1, hF, hX⟩ := c_makePrimitive P hM r10 cF (fun i => by have := hXF i; omega) hn
  obtain ⟨M2, k, s, e2, hok2, hk2, hRC, hRS, hk, hb⟩ := c_findRoots P hok1 (a := 10) r10 (by omega) c1 (c_primF P hF) (fun i => by have := hX i; have := hXF i; omega) hn
  refine ⟨M1, M2, k, s, e1, e2, hok2, ko7_trans (ko7_ch hc1 (by simp)) (fun k i a b => ⟨hk2.1 k i (by omega) (by omega) (by omega) (by omega), hk2.2 k i (by omega)⟩), sm7_trans (sm7_of hc1.1) ⟨fun p j hp => hk2.2 _ _ (by omega), fun i => hk2.2 _ _ (by omega), fun i => hk2.2 _ _ (by omega), hk2.2 _ _ (by omega), hk2.2 _ _ (by omega)⟩, hRC, ?_, hk, fun i hi => ⟨(hb i hi).1, ?_, (hb i hi).2⟩⟩
  · rcases hF with ⟨h1, h2⟩ | ⟨h1, h2, h3, h4, h5, h6⟩
    · rcases hRS with ⟨z, y⟩ | ⟨z, y⟩
      · exact Or.inl ⟨(nu_zero P).mp h1, y⟩
      · exact absurd ((nu_zero P).mp h1) (by rw [h2] at z; exact z)
    · rcases hRS with ⟨z, y⟩ | ⟨z, y⟩
      · rw [(nu_zero P).mpr z] at h5; omega
      · exact Or.inr ⟨fun w => h1 ((nu_zero P).mpr w), RSet_sc P h6 h2 y⟩
  · rcases hRS with ⟨z, y⟩ | ⟨z, y⟩
    · omega
    · have := (y.1 i hi).1; omega
theorem c_roots7 {S : Type} [Lean.Grind.CommRing S] {co : S → Nat → Int} (P : isPol co) {M : MI} (hM : ok M) (hbd : bd7 M) {a : Int} (ha : inI a) {n : Nat} (hn : 18446744073709551616 ≤ n) : ∃ M', ok M' ∧ ko7 M M' ∧ sm7 M M' ∧ ((¬ (0 ≤ a ∧ a < 80) ∧ tw7 1 M' (f_X7_roots n a M)) ∨ ((0 ≤ a ∧ a < 80) ∧ ((po7 P M a.toNat = 0 ∧ an7 (-1) M' (f_X7_roots n a M)) ∨ (po7 P M a.toNat ≠ 0 ∧ ∃ k s, RSet P (po7 P M a.toNat) k s ∧ an7 (k : Nat) M' (f_X7_roots n a M))))) := by
  unfold tw7 an7 f_X7_roots
  rw [c_reqP ha]
  by_cases h1 : 0 ≤ a ∧ a < 80
  · rw [if_pos h1, bs]
    dsimp only
    have r10 : row 10 := ⟨rfl, rfl⟩
    obtain ⟨M1, e1, hok1, hc1, cA⟩ := c_loadZ P hM (p := a.toNat) (a := 10) (by omega) r10 (by omega) hn
    rw [show ((a.toNat : Nat) : Int) = a by omega] at e1
    have xA := po7_X P hbd (p := a.toNat) (by omega)
    obtain ⟨A, hA⟩ : ∃ A, po7 P M a.toNat = A := ⟨_, rfl⟩
    rw [hA] at xA cA ⊢
    have hN := cA.2
    rw [e1, bs, c_degree P hok1 r10 cA hn, bs, gI_s (by omega) (by omega), bs]
    by_cases h0 : nu co A = 0
    · refine ⟨M1, hok1, ko7_ch hc1 (by simp), sm7_of hc1.1, Or.inr ⟨h1, Or.inl ⟨(nu_zero P).mp h0, ?_⟩⟩⟩
      rw [if_neg (by omega)]
    · obtain ⟨M2, M3, k, s, e2, e3, hok3, hk3, hs3, hRC, hRS, -⟩ := c_rootsOf P hok1 xA cA hn
      have hA0 : A ≠ 0 := fun z => h0 ((nu_zero P).mpr z)
      refine ⟨M3, hok3, ko7_trans (ko7_ch hc1 (by simp)) hk3, sm7_trans (sm7_of hc1.1) hs3, Or.inr ⟨h1, Or.inr ⟨hA0, k, s, (hRS.resolve_left (fun z => hA0 z.1)).2, ?_⟩⟩⟩
      rw [if_pos (by omega), e2, bs, e3, bs, hRC.1]
  · rw [if_neg h1, bs]; exact ⟨M, hM, ko7_refl M, sm7_of rfl, Or.inl ⟨h1, rfl⟩⟩
theorem c_root7 {S : Type} [Lean.Grind.CommRing S] {co : S → Nat → Int} (P : isPol co) {M : MI} (hM : ok M) (hbd : bd7 M) {a b c : Int} (ha : inI a) (hb : inI b) (hc : inI c) {n : Nat} (hn : 18446744073709551616 ≤ n) : ∃ M', ok M' ∧ ko7 M M' ∧ sm7 M M' ∧ ((¬ (0 ≤ a ∧ a < 80) ∧ tw7 1 M' (f_X7_root n a b c M)) ∨ ((0 ≤ a ∧ a < 80) ∧ ∃ (k : Nat) (s : Nat → Int × Int), (po7 P M a.toNat = 0 ∧ k = 0 ∨ po7 P M a.toNat ≠ 0 ∧ RSet P (po7 P M a.toNat) k s) ∧ ((¬ (0 ≤ b ∧ b < k ∧ 0 ≤ c ∧ c ≤ 1) ∧ tw7 3 M' (f_X7_root n a b c M)) ∨ ((0 ≤ b ∧ b < k ∧ 0 ≤ c ∧ c ≤ 1) ∧ an7 (if c = 0 then (s b.toNat).1 else (s b.toNat).2) M' (f_X7_root n a b c M))))) := by
  unfold tw7 an7 f_X7_root
  rw [c_reqP ha]
  by_cases h1 : 0 ≤ a ∧ a < 80
  · rw [if_pos h1, bs]
    dsimp only
    have r10 : row 10 := ⟨rfl, rfl⟩
    obtain ⟨M1, e1, hok1, hc1, cA⟩ := c_loadZ P hM (p := a.toNat) (a := 10) (by omega) r10 (by omega) hn
    rw [show ((a.toNat : Nat) : Int) = a by omega] at e1
    have xA := po7_X P hbd (p := a.toNat) (by omega)
    obtain ⟨M2, M3, k, s, e2, e3, hok3, hk3, hs3, hRC, hRS, hk, hbs⟩ := c_rootsOf P hok1 xA cA hn
    refine ⟨M3, hok3, ko7_trans (ko7_ch hc1 (by simp)) hk3, sm7_trans (sm7_of hc1.1) hs3, Or.inr ⟨h1, k, s, hRS, ?_⟩⟩
    rw [e1, bs, e2, bs, e3, bs, gI_s hb (by omega), bs]
    by_cases z1 : b < 0
    · exact Or.inl ⟨by omega, by rw [if_pos z1]⟩
    · rw [if_neg z1, hRC.1, gI_s hb (by omega), bs]
      by_cases z2 : b < (k : Int)
      · rw [if_pos z2, gI_s hc (by omega), bs]
        obtain ⟨q1, q2⟩ := hRC.2 b.toNat (by omega)
        obtain ⟨w1, w2, w3⟩ := hbs b.toNat (by omega)
        rw [nz_le] at w1
        by_cases z3 : c = 0
        · refine Or.inr ⟨by omega, ?_⟩
          rw [if_pos z3, if_pos z3, bs, odJ_n (k := 32) b.toNat rfl (by omega) (show b.toNat < 10 by omega), bs, bs, q1, gJ_s (by omega) (by omega), bs, if_pos z3]
        · rw [if_neg z3, gI_s hc (by omega), bs]
          by_cases z4 : c = 1
          · refine Or.inr ⟨by omega, ?_⟩
            rw [if_pos z4, bs, if_neg z3, odJ_n (k := 33) b.toNat rfl (by omega) (show b.toNat < 10 by omega), bs, bs, q2, gJ_s (by omega) (by omega), bs, if_neg z3]
          · exact Or.inl ⟨by omega, by rw [if_neg z4]⟩
      · exact Or.inl ⟨by omega, by rw [if_neg z2]⟩
  · rw [if_neg h1, bs]; exact ⟨M, hM, ko7_refl M, sm7_of rfl, Or.inl ⟨h1, rfl⟩⟩
theorem j_floorModW {x y : Int} (hx : inI x) (hy : 0 < y ∧ y ≤ 2147483647) : f_J9_floorModW x y = some (x % y) := by
  obtain ⟨h1, h2⟩ := oxorI_sg (x := x) (y := y) hx hy
  have er : orW x y = some (x.tmod y) := by unfold orW; rw [if_pos ⟨by omega, by omega, by omega⟩]
  have hb : (x.tmod y).natAbs < y.natAbs := by rw [Int.natAbs_tmod]; exact Nat.mod_lt _ (by omega)
  unfold f_J9_floorModW
  rw [er, bs, gI_s h1 (by omega), bs]
  by_cases z : 0 ≤ x
  · rw [if_pos (h2.mpr z), tmod_nn z]
  · rw [if_neg (fun q => z (h2.mp q)), gI_s (by omega) (by omega), bs, fm_val hy.1 (by omega)]
    by_cases w : x.tmod y = 0
    · rw [if_pos w, if_pos w, w]
    · rw [if_neg w, if_neg w]
theorem c_value7 {M : MI} (hM : ok M) (hbd : bd7 M) {a x m : Int} (ha : inI a) (hx : inI x) (hm : inI m) {n : Nat} (hn : 18446744073709551616 ≤ n) : (¬ (0 ≤ a ∧ a < 80) ∧ tw7 1 M (f_X7_value n a x m M)) ∨ ((0 ≤ a ∧ a < 80) ∧ ¬ (1 ≤ m ∧ m ≤ 1000000) ∧ tw7 3 M (f_X7_value n a x m M)) ∨ ((0 ≤ a ∧ a < 80) ∧ (1 ≤ m ∧ m ≤ 1000000) ∧ an7 (hv (fun j => M.2 (49 + a.toNat) j) x 11 % m) M (f_X7_value n a x m M)) := by
  unfold tw7 an7 f_X7_value
  rw [c_reqP ha]
  by_cases h1 : 0 ≤ a ∧ a < 80
  · rw [if_pos h1, bs]
    dsimp only
    rw [gI_s hm (by omega), bs]
    by_cases h2 : m < 1
    · exact Or.inr (Or.inl ⟨h1, by omega, by rw [if_pos h2]⟩)
    · rw [if_neg h2, gI_s hm (by omega), bs]
      by_cases h3 : m ≤ 1000000
      · refine Or.inr (Or.inr ⟨h1, by omega, ?_⟩)
        have hr := cr_i (p := a.toNat) (by omega)
        have hp1 := Int.emod_nonneg x (show m ≠ 0 by omega)
        have hp2 := Int.emod_lt_of_pos x (show 0 < m by omega)
        obtain ⟨c, hc⟩ : ∃ c : Nat → Int, c = fun j => M.2 (49 + a.toNat) j := ⟨_, rfl⟩
        have hL : lpF (l_X7_value_40 a m M (x % m)) n (0, 10) = some (hv c x 11 % m) := by
          have e := lp_for (step := l_X7_value_40 a m M (x % m)) (fun t => (hv c x t % m, (10 : Int) - t)) (hv c x 11 % m) 11 n (fun t ht => by
            have hb := nz_le.mp (hbd a.toNat (10 - t) (by omega) (by omega))
            have s1 := Int.emod_nonneg (hv c x t) (show m ≠ 0 by omega)
            have s2 := Int.emod_lt_of_pos (hv c x t) (show 0 < m by omega)
            have m1 : 0 ≤ hv c x t % m * (x % m) := Int.mul_nonneg s1 hp1
            have m2 : hv c x t % m * (x % m) ≤ 1000000 * 1000000 := Int.mul_le_mul (by omega) (by omega) hp1 (by omega)
            unfold l_X7_value_40
            dsimp only
            rw [gI_s (by omega) (by omega), bs, if_neg (by omega), oA7 (k := a.toNat) (by omega) (by omega), bs, odI_n (10 - t) hr.1 (by omega) (by rw [hr.2]; omega), bs, gI_s (by omega) (by omega), bs, gI_s hm (by omega), bs, j_floorMod (by omega) (by omega), bs]
            have e2 : (hv c x t % m * (x % m) + M.2 (49 + a.toNat) (10 - t)) % m = hv c x (t + 1) % m := by
              show _ = (hv c x t * x + c (10 - t)) % m
              rw [hc, Int.add_emod, ← Int.mul_emod, ← Int.add_emod]
            rw [e2]
            exact congrArg (fun z => some (Sum.inr (hv c x (t + 1) % m, z))) (by omega)) (by
            unfold l_X7_value_40
            dsimp only
            rw [gI_s (by omega) (by omega), bs, if_pos (by omega)]) (by omega)
          have e0 : (hv c x 0 % m, (10 : Int) - (0 : Nat)) = (0, 10) := Prod.ext (Int.zero_emod m) rfl
          rw [e0] at e
          exact e
        have s1 := Int.emod_nonneg (hv c x 11) (show m ≠ 0 by omega)
        have s2 := Int.emod_lt_of_pos (hv c x 11) (show 0 < m by omega)
        rw [← hc, if_pos h3, j_floorModW hx (by omega), bs, gI_s (by omega) (by omega), bs, hL, bs, gJ_s (by omega) (by omega), bs]
      · exact Or.inr (Or.inl ⟨h1, by omega, by rw [if_neg h3]⟩)
  · rw [if_neg h1, bs]; exact Or.inl ⟨h1, rfl⟩
end MCl7b
