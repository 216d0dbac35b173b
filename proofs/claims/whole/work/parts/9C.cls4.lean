/-! the class's field: reduce, inverse, makeMonic, divide -/
section MCls4
theorem row_ne {a : Nat} (h : row a) : a ≠ 1 := fun z => by rw [z] at h; exact absurd h.1 (by decide)
theorem c_choose {M : MI} {x : Int} (hx : inJ x) : f_X3_choose x M = some (oJ M 1 0 (if 2 < x then x else 2)) := by
  unfold f_X3_choose
  rw [j_maxJ (by omega) hx, bs]
  rfl
theorem c_reduceG {R T : Type} [Lean.Grind.CommRing R] [Lean.Grind.CommRing T] {ct : T → Nat → R} (K : isPol ct) {p : Nat} (hp : isZp R p) {φ : Int → R} (hφ : isRed φ p) {M : MI} (hM : ok M) {a b : Nat} (ha : row a) (hb : row b) (hm : M.1 1 0 = p) (hm2 : p ≤ 1000000000000) {f : T} (hf : ∀ i, i < 11 → φ (M.1 a i) = ct f i) (hN : nu ct f ≤ 11) (hw : ∀ i, i < 11 → -9223372036854775807 ≤ M.1 a i) {n : Nat} (hn : 18446744073709551616 ≤ n) : ∃ M', f_X3_reduce n a b M = some M' ∧ ok M' ∧ chJ [b] M M' ∧ CP ct φ p M' b f := by
  have hp2 := hp.1.1
  obtain ⟨V, hV⟩ : ∃ V : Nat → Int, V = fun i => M.1 a i % p := ⟨_, rfl⟩
  have hVb : ∀ i, 0 ≤ V i ∧ V i < p := fun i => by rw [hV]; exact ⟨Int.emod_nonneg _ (by omega), Int.emod_lt_of_pos _ (by omega)⟩
  have hL : lpF (l_X3_reduce_2 a b) n (M, 0) = some (wrM M b 0 11 V) := by
    have e := lp_for (step := l_X3_reduce_2 a b) (fun k => (wrM M b 0 k V, (k : Int))) (wrM M b 0 11 V) 11 n (fun k hk => by
      have h1 : (wrM M b 0 k V).1 a k = M.1 a k := by rw [wrM_1, if_neg (by omega)]
      have h2 : (wrM M b 0 k V).1 1 0 = p := by rw [wrM_1, if_neg (fun z => row_ne hb z.1.symm)]; exact hm
      have h3 := hw k hk
      have h4 := (hM.1 a k).2
      have eV : M.1 a k % p = V k := by rw [hV]
      unfold l_X3_reduce_2
      dsimp only
      rw [gI_s (by omega) (by omega), bs, if_neg (by omega), odJ_n k ha.1 rfl (by rw [ha.2]; omega), bs, h1, h2, j_floorMod (by omega) (by omega), bs, osJ_n k hb.1 rfl (by rw [hb.2]; omega), bs, eV]
      have := wrM_s M b 0 k V
      rw [Nat.zero_add] at this
      rw [this]
      rfl) (by
      unfold l_X3_reduce_2
      dsimp only
      rw [gI_s (by omega) (by omega), bs, if_pos (by omega)]) (by omega)
    rw [wrM_0] at e
    exact e
  refine ⟨wrM M b 0 11 V, ?_, ok_wrM hM (fun i _ => by have := hVb i; omega), chJ_wr M b 0 11 V, fun i hi => ?_, hN⟩
  · unfold f_X3_reduce
    rw [hL, bs]
  · rw [wrM_1, if_pos (by omega), Nat.sub_zero]
    refine ⟨(hVb i).1, (hVb i).2, ?_⟩
    rw [hV]
    dsimp only
    rw [red_md hφ]
    exact hf i hi
theorem c_inverse {M : MI} {p v : Nat} (hm : M.1 1 0 = p) (hp : 2 ≤ p) (hp2 : p ≤ 100000000) (hv : v < p) {n : Nat} (hn : 18446744073709551616 ≤ n) : f_X3_inverse n v M = some (((v ^ (p - 2) % p : Nat) : Int) ) ∨ (p = 2 ∧ f_X3_inverse n v M = some 1) := by
  by_cases h2 : p = 2
  · refine Or.inr ⟨h2, ?_⟩
    have er : orJ (v : Int) p = some (((v % p : Nat)) : Int) := by
      unfold orJ
      rw [if_pos ⟨by omega, by omega, by omega, by omega⟩]; rfl
    have hL : lpF (l_X3_inverse_20 M) n (((v % p : Nat) : Int), 1, (p : Int) - 2) = some 1 := lp_for (fun _ => (((v % p : Nat) : Int), (1 : Int), (p : Int) - 2)) 1 0 n (fun k hk => absurd hk (by omega)) (by
      unfold l_X3_inverse_20
      dsimp only
      rw [gJ_s (by omega) (by omega), bs, if_pos (by omega)]) (by omega)
    unfold f_X3_inverse
    rw [hm, er, bs, hL, bs]
  · refine Or.inl ?_
    have er : ∀ x y : Nat, x * y < 9223372036854775808 → orJ ((x : Int) * y) p = some (((x * y % p : Nat)) : Int) := fun x y h => by
      unfold orJ
      rw [← Int.natCast_mul]
      rw [if_pos ⟨by omega, by omega, by omega, by omega⟩]; rfl
    have er0 : orJ (v : Int) p = some (((v % p : Nat)) : Int) := by
      unfold orJ
      rw [if_pos ⟨by omega, by omega, by omega, by omega⟩]; rfl
    obtain ⟨r, h1, rfl⟩ := lp_do (step := l_X3_inverse_20 M) (fun st => ∃ b w e : Nat, st = ((b : Int), (w : Int), (e : Int)) ∧ b < p ∧ w < p ∧ e ≤ p ∧ w * b ^ e % p = v ^ (p - 2) % p) (fun st => st.2.2.toNat) (fun r => r = ((v ^ (p - 2) % p : Nat) : Int)) (fun st hst => by
      obtain ⟨b, w, e, hst, hb, hw, he, hc⟩ := hst
      subst hst
      have hbb : b * b < 9223372036854775808 := Nat.lt_of_lt_of_le (Nat.mul_lt_mul_of_lt_of_le hb (by omega) (by omega)) (show p * p ≤ _ from Nat.le_trans (Nat.mul_le_mul hp2 hp2) (by decide))
      have hwb : w * b < 9223372036854775808 := Nat.lt_of_lt_of_le (Nat.mul_lt_mul_of_lt_of_le hw (Nat.le_of_lt hb) (by omega)) (show p * p ≤ _ from Nat.le_trans (Nat.mul_le_mul hp2 hp2) (by decide))
      unfold l_X3_inverse_20
      dsimp only
      rw [gJ_s (by omega) (by omega), bs]
      by_cases h0 : (e : Int) ≤ 0
      · rw [if_pos h0]
        refine Or.inl ⟨_, rfl, ?_⟩
        rw [show e = 0 by omega, Nat.pow_zero, Nat.mul_one, Nat.mod_eq_of_lt hw] at hc
        rw [hc]
      · rw [if_neg h0, oand1 (by omega) (by omega), hm, er b b hbb, oshr1 (by omega)]
        have hmb := Nat.mod_lt (b * b) (show 0 < p by omega)
        have hmw := Nat.mod_lt (w * b) (show 0 < p by omega)
        have hsq : ∀ k, (b * b % p) ^ k % p = b ^ (2 * k) % p := fun k => by
          rw [← Nat.pow_mod, Nat.pow_mul, show b ^ 2 = b * b by rw [Nat.pow_succ, Nat.pow_one]]
        rw [gJ_s (by omega) (by omega), bs]
        by_cases hod : (e : Int) % 2 = 1
        · rw [if_pos hod, er w b hwb, bs, bs, bs]
          refine Or.inr ⟨_, rfl, ⟨b * b % p, w * b % p, e / 2, by congr 1, hmb, hmw, by omega, ?_⟩, by dsimp only; omega⟩
          rw [Nat.mul_mod, hsq, Nat.mod_mod, ← Nat.mul_mod, Nat.mul_assoc, ← hc]
          congr 2
          have h8 : b ^ e = b ^ (2 * (e / 2)) * b := by
            have h9 := Nat.pow_succ (n := b) (m := 2 * (e / 2))
            rw [← h9, show (2 * (e / 2)).succ = e by omega]
          rw [h8, Nat.mul_comm]
        · rw [if_neg hod, bs, bs]
          refine Or.inr ⟨_, rfl, ⟨b * b % p, w, e / 2, by congr 1, hmb, hw, by omega, ?_⟩, by dsimp only; omega⟩
          rw [Nat.mul_mod, hsq, ← Nat.mul_mod, ← hc, show 2 * (e / 2) = e by omega]) n (((v % p : Nat) : Int), 1, (p : Int) - 2) ⟨v % p, 1, p - 2, by congr 2; omega, Nat.mod_lt _ (by omega), by omega, by omega, by rw [Nat.one_mul, Nat.mod_eq_of_lt hv]⟩ (by dsimp only; omega)
    unfold f_X3_inverse
    rw [hm, er0, bs, h1, bs]
/-- the inverse, in words of the field -/
theorem c_inv {R : Type} [Lean.Grind.CommRing R] {p : Nat} (hp : isZp R p) {φ : Int → R} (hφ : isRed φ p) {M : MI} (hm : M.1 1 0 = p) (hp2 : p ≤ 100000000) {v : Int} (h0 : 0 ≤ v) (hv : v < p) (hne : φ v ≠ 0) {n : Nat} (hn : 18446744073709551616 ≤ n) : ∃ w, f_X3_inverse n v M = some w ∧ 0 ≤ w ∧ w < p ∧ φ v * φ w = 1 := by
  have hp1 := hp.1.1
  obtain ⟨x, hx⟩ : ∃ x : Nat, v = x := ⟨v.toNat, by omega⟩
  subst hx
  rcases c_inverse (M := M) (v := x) hm hp1 hp2 (by omega) hn with h | ⟨h2, h⟩
  · refine ⟨_, h, by omega, by have := Nat.mod_lt (x ^ (p - 2)) (show 0 < p by omega); omega, ?_⟩
    have e : φ (((x ^ (p - 2) % p : Nat)) : Int) = (φ (x : Int)) ^ (p - 2) := by
      rw [Int.natCast_emod, red_md hφ, ← red_pw hφ]
      congr 1
    rw [e]
    exact fermat2 hp hne
  · refine ⟨1, h, by omega, by omega, ?_⟩
    rw [hφ.2.2.2]
    have hx1 : x = 1 := by
      rcases Nat.eq_zero_or_pos x with z | z
      · exfalso; apply hne; rw [z]; exact red_zero hφ
      · omega
    rw [hx1, show φ ((1 : Nat) : Int) = 1 from hφ.2.2.2]
    grind
theorem CP_z {R T : Type} [Lean.Grind.CommRing R] [Lean.Grind.CommRing T] {ct : T → Nat → R} {φ : Int → R} {p : Nat} (hφ : isRed φ p) {M : MI} {a : Nat} {f : T} (hf : CP ct φ p M a f) {i : Nat} (hi : i < 11) : ct f i = 0 ↔ M.1 a i = 0 := by
  obtain ⟨h1, h2, h3⟩ := hf.1 i hi
  rw [← h3, hφ.2.2.1]
  constructor
  · intro q
    apply Classical.byContradiction
    intro hne
    have := Int.le_of_dvd (by omega) q
    omega
  · intro q; rw [q]; exact ⟨0, by omega⟩
theorem c_makeMonic {R T : Type} [Lean.Grind.CommRing R] [Lean.Grind.CommRing T] {ct : T → Nat → R} (K : isPol ct) {p : Nat} (hp : isZp R p) {φ : Int → R} (hφ : isRed φ p) {M : MI} (hM : ok M) {a b : Nat} (ha : row a) (hb : row b) (hm : M.1 1 0 = p) (hm2 : p ≤ 100000000) {f : T} (hf : ∀ i, i < 11 → φ (M.1 a i) = ct f i) (hN : nu ct f ≤ 11) (hw : ∀ i, i < 11 → -9223372036854775807 ≤ M.1 a i) {n : Nat} (hn : 18446744073709551616 ≤ n) : ∃ M' c, f_X3_makeMonic n a b M = some M' ∧ ok M' ∧ chJ [b] M M' ∧ CP ct φ p M' b (mo K c 0 * f) ∧ c ≠ 0 ∧ (f ≠ 0 → ct f (nu ct f - 1) * c = 1) ∧ nu ct (mo K c 0 * f) = nu ct f := by
  have hp1 := hp.1.1
  have hF := hp.2.2.1
  obtain ⟨M1, e1, hok1, hc1, r1⟩ := c_reduceG K hp hφ hM ha hb hm (by omega) hf hN hw hn
  have hm1 : M1.1 1 0 = p := by rw [hc1.2 1 0 (by simp; exact fun z => row_ne hb z.symm)]; exact hm
  have hd := c_degreeP K hφ hok1 hb r1 hn
  have hmo1 : mo K (1 : R) 0 * f = f := by rw [mo_one K]; grind
  by_cases h0 : nu ct f = 0
  · refine ⟨M1, 1, ?_, hok1, hc1, by rw [hmo1]; exact r1, hF.1, fun z => absurd ((nu_zero K).mp h0) z, by rw [hmo1]⟩
    unfold f_X3_makeMonic
    rw [e1, bs, hd, bs, gI_s (by omega) (by omega), bs, if_pos (by omega)]
  · obtain ⟨w1, w2, w3⟩ := r1.1 (nu ct f - 1) (by omega)
    have hl := nu_top K f h0
    have e3 : odJ M1 b ((nu ct f : Int) - 1) = some (M1.1 b (nu ct f - 1)) := odJ_n (nu ct f - 1) hb.1 (by omega) (by rw [hb.2]; omega)
    by_cases h1 : M1.1 b (nu ct f - 1) = 1
    · refine ⟨M1, 1, ?_, hok1, hc1, by rw [hmo1]; exact r1, hF.1, fun _ => ?_, by rw [hmo1]⟩
      · unfold f_X3_makeMonic
        rw [e1, bs, hd, bs, gI_s (by omega) (by omega), bs, if_neg (by omega), e3, bs, gJ_s (by omega) (by omega), bs, if_pos h1]
      · rw [← w3, h1, hφ.2.2.2]; grind
    · obtain ⟨w, ew, hw0, hwp, hinv⟩ := c_inv hp hφ hm1 hm2 w1 w2 (by rw [w3]; exact hl) hn
      obtain ⟨V, hV⟩ : ∃ V : Nat → Int, V = fun i => M1.1 b i * w % p := ⟨_, rfl⟩
      have hVb : ∀ i, 0 ≤ V i ∧ V i < p := fun i => by rw [hV]; exact ⟨Int.emod_nonneg _ (by omega), Int.emod_lt_of_pos _ (by omega)⟩
      have hL : lpF (l_X3_makeMonic_36 b ((nu ct f : Int) - 1) w) n (M1, 0) = some (wrM M1 b 0 (nu ct f) V) := by
        have e := lp_for (step := l_X3_makeMonic_36 b ((nu ct f : Int) - 1) w) (fun k => (wrM M1 b 0 k V, (k : Int))) (wrM M1 b 0 (nu ct f) V) (nu ct f) n (fun k hk => by
          obtain ⟨x1, x2, -⟩ := r1.1 k (by omega)
          have q1 : (wrM M1 b 0 k V).1 b k = M1.1 b k := by rw [wrM_1, if_neg (by omega)]
          have q2 : (wrM M1 b 0 k V).1 1 0 = p := by rw [wrM_1, if_neg (fun z => row_ne hb z.1.symm)]; exact hm1
          have hb0 : 0 ≤ M1.1 b k * w := Int.mul_nonneg x1 hw0
          have hb1 : M1.1 b k * w ≤ 100000000 * 100000000 := Int.mul_le_mul (by omega) (by omega) hw0 (by omega)
          have eo : orJ (M1.1 b k * w) p = some (V k) := by
            unfold orJ
            rw [if_pos ⟨by omega, by omega, by omega, by omega⟩, tmod_nn hb0, hV]
          unfold l_X3_makeMonic_36
          dsimp only
          rw [gI_s (by omega) (by omega), bs, if_neg (by omega), odJ_n k hb.1 rfl (by rw [hb.2]; omega), bs, q1, q2, eo, bs, osJ_n k hb.1 rfl (by rw [hb.2]; omega), bs]
          have := wrM_s M1 b 0 k V
          rw [Nat.zero_add] at this
          rw [this]
          rfl) (by
          unfold l_X3_makeMonic_36
          dsimp only
          rw [gI_s (by omega) (by omega), bs, if_pos (by omega)]) (by omega)
        rw [wrM_0] at e
        exact e
      have hcne : φ w ≠ 0 := fun z => hF.1 (by rw [← hinv, z]; grind)
      have hNe : nu ct (mo K (φ w) 0 * f) = nu ct f := nu_eq K (fun i hi => by rw [mo_0 K, nu_hi K f hi]; grind) (fun _ q => by
        rw [mo_0 K] at q
        rcases isF_D hF _ _ q with z | z
        · exact hcne z
        · exact hl z)
      refine ⟨wrM M1 b 0 (nu ct f) V, φ w, ?_, ok_wrM hok1 (fun i _ => by have := hVb i; omega), chJ_mono (chJ_trans hc1 (chJ_wr M1 b 0 _ V)) (fun x hx => by simpa using hx), ⟨fun i hi => ?_, by omega⟩, hcne, fun _ => by rw [← w3]; exact hinv, hNe⟩
      · unfold f_X3_makeMonic
        rw [e1, bs, hd, bs, gI_s (by omega) (by omega), bs, if_neg (by omega), e3, bs, gJ_s (by omega) (by omega), bs, if_neg h1, bs, ew, bs, hL, bs]
      · rw [wrM_1, mo_0 K]
        obtain ⟨x1, x2, x3⟩ := r1.1 i hi
        by_cases z : i < nu ct f
        · rw [if_pos (by omega), Nat.sub_zero]
          refine ⟨(hVb i).1, (hVb i).2, ?_⟩
          rw [hV]; dsimp only
          rw [red_md hφ, hφ.2.1, x3]; grind
        · rw [if_neg (by omega)]
          refine ⟨x1, x2, ?_⟩
          rw [x3, nu_hi K f (by omega)]; grind
theorem c_fdivI {R T : Type} [Lean.Grind.CommRing R] [Lean.Grind.CommRing T] {ct : T → Nat → R} (K : isPol ct) {p : Nat} (hp : isZp R p) {φ : Int → R} (hφ : isRed φ p) (hp2 : p ≤ 100000000) {M : MI} (hM : ok M) {a b k : Nat} (ha : row a) (hb : row b) (hab : a ≠ b) {g r : T} (hg : CP ct φ p M b g) (hg0 : nu ct g ≠ 0) (hk : k + nu ct g ≤ 11) {q X : Int} (hq0 : 0 ≤ q) (hqp : q < p) (hX0 : 0 ≤ X) (hX2 : X ≤ 1000000000000000000) (hr : ∀ j, j < 11 → φ (M.1 a j) = ct r j) (hrX : ∀ j, j < 11 → nz (M.1 a j) ≤ X) {n : Nat} (hn : 18446744073709551616 ≤ n) : ∃ M', lpF (l_X3_divide_87 a b ((nu ct g : Int) - 1) k q) n (M, 0) = some M' ∧ ok M' ∧ chJ [a] M M' ∧ (∀ j, j < 11 → φ (M'.1 a j) = ct (r - mo K (φ q) k * g) j) ∧ ∀ j, j < 11 → nz (M'.1 a j) ≤ X + 10000000000000000 := by
  obtain ⟨V, hV⟩ : ∃ V : Nat → Int, V = fun j => M.1 a (k + j) - q * M.1 b j := ⟨_, rfl⟩
  have hVX : ∀ j, j < nu ct g → nz (V j) ≤ X + 10000000000000000 := fun j hj => by
    obtain ⟨b1, b2, -⟩ := hg.1 j (by omega)
    have h1 := hrX (k + j) (by omega)
    have h2 : nz (q * M.1 b j) ≤ 100000000 * 100000000 := nz_mul_le (by rw [nz_le]; omega) (by rw [nz_le]; omega)
    rw [hV]; dsimp only
    have := nz_sub_le h1 h2
    omega
  have hL : lpF (l_X3_divide_87 a b ((nu ct g : Int) - 1) k q) n (M, 0) = some (wrM M a k (nu ct g) V) := by
    have e := lp_for (step := l_X3_divide_87 a b ((nu ct g : Int) - 1) k q) (fun j => (wrM M a k j V, (j : Int))) (wrM M a k (nu ct g) V) (nu ct g) n (fun j hj => by
      have e1 : (wrM M a k j V).1 b j = M.1 b j := by rw [wrM_1, if_neg (fun z => hab z.1.symm)]
      have e2 : (wrM M a k j V).1 a (k + j) = M.1 a (k + j) := by rw [wrM_1, if_neg (by omega)]
      have e3 : M.1 a (k + j) - q * M.1 b j = V j := by rw [hV]
      unfold l_X3_divide_87
      dsimp only
      rw [gI_s (by omega) (by omega), bs, if_neg (by omega), odJ_n (k + j) ha.1 (by omega) (by rw [ha.2]; omega), bs, e2, odJ_n j hb.1 rfl (by rw [hb.2]; omega), bs, e1, osJ_n (k + j) ha.1 (by omega) (by rw [ha.2]; omega), bs, e3, wrM_s]
      rfl) (by
      unfold l_X3_divide_87
      dsimp only
      rw [gI_s (by omega) (by omega), bs, if_pos (by omega)]) (by omega)
    rw [wrM_0] at e
    exact e
  refine ⟨_, hL, ok_wrM hM (fun j hj => by have := nz_le.mp (hVX j hj); omega), chJ_wr M a k _ V, fun j hj => ?_, fun j hj => ?_⟩
  · rw [wrM_1, p_sub K, mo_mul K]
    by_cases z : k ≤ j ∧ j < k + nu ct g
    · rw [if_pos (by omega), if_pos z.1, hV]; dsimp only
      rw [show k + (j - k) = j by omega, red_sub hφ, hφ.2.1, hr j hj, (hg.1 (j - k) (by omega)).2.2]
    · rw [if_neg (by omega), hr j hj]
      by_cases y : k ≤ j
      · rw [if_pos y, nu_hi K g (by omega)]; grind
      · rw [if_neg y]; grind
  · rw [wrM_1]
    by_cases z : k ≤ j ∧ j < k + nu ct g
    · rw [if_pos (by omega)]; exact hVX (j - k) (by omega)
    · rw [if_neg (by omega)]; have := hrX j hj; omega
theorem c_fdivide {R T : Type} [Lean.Grind.CommRing R] [Lean.Grind.CommRing T] {ct : T → Nat → R} (K : isPol ct) {p : Nat} (hp : isZp R p) {φ : Int → R} (hφ : isRed φ p) (hp2 : p ≤ 100000000) {M : MI} (hM : ok M) {a b : Nat} (ha : row a) (hb : row b) (hab : a ≠ b) (ha14 : a ≠ 14) (hb14 : b ≠ 14) (hm : M.1 1 0 = p) {f g : T} (hf : CP ct φ p M a f) (hg : CP ct φ p M b g) (hg0 : nu ct g ≠ 0) {n : Nat} (hn : 18446744073709551616 ≤ n) : ∃ M' q r, f_X3_divide n a b M = some M' ∧ ok M' ∧ chJ [a, 14] M M' ∧ f = q * g + r ∧ nu ct r < nu ct g ∧ CP ct φ p M' a r ∧ CP ct φ p M' 14 q := by
  have hp1 := hp.1.1
  have hF := hp.2.2.1
  have r14 : row 14 := ⟨rfl, rfl⟩
  have hNf := hf.2
  have hNg := hg.2
  have e1 := j_fill (M := M) (a := 14) rfl (by decide) 0 hn
  rw [show kn 14 = 11 from rfl] at e1
  obtain ⟨M1, hM1⟩ : ∃ M1, M1 = wrM M 14 0 11 (fun _ => 0) := ⟨_, rfl⟩
  rw [← hM1] at e1
  have hok1 : ok M1 := by rw [hM1]; exact ok_wrM hM (fun _ _ => by omega)
  have hc1 : chJ [14] M M1 := by rw [hM1]; exact chJ_wr _ 14 0 11 _
  have hf1 := CP_ch hf hc1 (by simpa using ha14)
  have hg1 := CP_ch hg hc1 (by simpa using hb14)
  have hm1 : M1.1 1 0 = p := by rw [hc1.2 1 0 (by simp)]; exact hm
  have hdb := c_degreeP K hφ hok1 hb hg1 hn
  have hda := c_degreeP K hφ hok1 ha hf1 hn
  obtain ⟨w1, w2, w3⟩ := hg1.1 (nu ct g - 1) (by omega)
  have hl := nu_top K g hg0
  have e3 : odJ M1 b ((nu ct g : Int) - 1) = some (M1.1 b (nu ct g - 1)) := odJ_n (nu ct g - 1) hb.1 (by omega) (by rw [hb.2]; omega)
  -- the inverse of the head
  obtain ⟨s, es, hs0, hsp, hsi⟩ : ∃ s, (Option.bind (gJ (M1.1 b (nu ct g - 1)) (1)) fun _ => if M1.1 b (nu ct g - 1) = (1) then some (1) else Option.bind (some (M1.1 b (nu ct g - 1))) fun v4 => Option.bind (f_X3_inverse n v4 M1) fun v5 => some v5) = some s ∧ 0 ≤ s ∧ s < p ∧ ct g (nu ct g - 1) * φ s = 1 := by
    by_cases h1 : M1.1 b (nu ct g - 1) = 1
    · refine ⟨1, by rw [gJ_s (by omega) (by omega), bs, if_pos h1], by omega, by omega, ?_⟩
      rw [← w3, h1, hφ.2.2.2]; grind
    · obtain ⟨w, ew, hw0, hwp, hinv⟩ := c_inv hp hφ hm1 hp2 w1 w2 (by rw [w3]; exact hl) hn
      exact ⟨w, by rw [gJ_s (by omega) (by omega), bs, if_neg h1, bs, ew, bs], hw0, hwp, by rw [← w3]; exact hinv⟩
  obtain ⟨M22, hL, hok22, hc22, q, r, hfe, hr1, hrv, hrX, hqv, hqN⟩ := lp_do (step := l_X3_divide_47 n a b ((nu ct g : Int) - 1) s) (fun st => ok st.1 ∧ chJ [a, 14] M1 st.1 ∧ ∃ (t : Int) (q r : T), st.2 = t - 1 ∧ -30 ≤ t ∧ t + nu ct g ≤ nu ct f + 1 ∧ f = q * g + r ∧ (∀ j : Nat, t + nu ct g ≤ j + 1 → 0 ≤ t → ct r j = 0) ∧ (∀ j, nu ct f ≤ j → ct r j = 0) ∧ (∀ j, j < 11 → φ (st.1.1 a j) = ct r j) ∧ (∀ j, j < 11 → nz (st.1.1 a j) ≤ 1000000000 + (nu ct f + 1 - nu ct g - t) * 10000000000000000) ∧ (∀ j, j < 11 → 0 ≤ st.1.1 14 j ∧ st.1.1 14 j < p ∧ φ (st.1.1 14 j) = ct q j) ∧ (∀ j, nu ct f < j + nu ct g → ct q j = 0) ∧ (∀ j : Nat, (j : Int) < t → ct q j = 0) ∧ (nu ct g ≤ nu ct f → 0 ≤ t)) (fun st => (st.2 + 50).toNat) (fun M22 => ok M22 ∧ chJ [a, 14] M1 M22 ∧ ∃ q r, f = q * g + r ∧ nu ct r < nu ct g ∧ (∀ j, j < 11 → φ (M22.1 a j) = ct r j) ∧ (∀ j, j < 11 → nz (M22.1 a j) ≤ 1000000000000000000) ∧ (∀ j, j < 11 → 0 ≤ M22.1 14 j ∧ M22.1 14 j < p ∧ φ (M22.1 14 j) = ct q j) ∧ nu ct q ≤ 11) (fun st hst => by
    obtain ⟨Ma, y⟩ := st
    obtain ⟨k1, k2, t, q, r, hy, ht1, ht2, hfe, hr1, hr2, hrv, hrX, hqv, hq2, hq3, ht0⟩ := hst
    dsimp only at k1 k2 hy hrv hrX hqv
    subst hy
    have hga := CP_ch hg1 k2 (by simp; omega)
    have hma : Ma.1 1 0 = p := by rw [k2.2 1 0 (by simp; exact fun z => row_ne ha z.symm)]; exact hm1
    unfold l_X3_divide_47
    dsimp only
    rw [gI_s (by omega) (by omega), bs]
    by_cases hlt : t - 1 < 0
    · rw [if_pos hlt]
      refine Or.inl ⟨_, rfl, k1, k2, q, r, hfe, ?_, hrv, fun j hj => by have := hrX j hj; omega, hqv, nu_le K (fun j hj => hq2 j (by omega))⟩
      rcases Nat.lt_or_ge (nu ct f) (nu ct g) with z | z
      · have : nu ct r ≤ nu ct f := nu_le K hr2
        omega
      · have := ht0 z
        have : nu ct r ≤ nu ct g - 1 := nu_le K (fun j hj => hr1 j (by omega) this)
        omega
    · obtain ⟨k, hk⟩ : ∃ k : Nat, t - 1 = k := ⟨(t - 1).toNat, by omega⟩
      have ek : t = k + 1 := by omega
      subst ek
      rw [if_neg hlt, show (k : Int) + 1 - 1 = k by omega]
      obtain ⟨x, hx⟩ : ∃ x, Ma.1 a (k + (nu ct g - 1)) = x := ⟨_, rfl⟩
      have hxv := hrv (k + (nu ct g - 1)) (by omega)
      have hxX := hrX (k + (nu ct g - 1)) (by omega)
      rw [hx] at hxv hxX
      have hxB := nz_le.mp (show nz x ≤ 1000000000000000000 by omega)
      have e8 : odJ Ma a ((k : Int) + ((nu ct g : Int) - 1)) = some x := by rw [odJ_n (k + (nu ct g - 1)) ha.1 (by omega) (by rw [ha.2]; omega), hx]
      have eo : orJ x p = some (x.tmod p) := by unfold orJ; rw [if_pos ⟨by omega, by omega, by omega, by omega⟩]
      have hmn : (x.tmod p).natAbs < p := by rw [Int.natAbs_tmod, Int.natAbs_natCast]; exact Nat.mod_lt _ (by omega)
      have hms : nz (x.tmod p * s) ≤ 100000000 * 100000000 := nz_mul_le (by unfold nz; omega) (by rw [nz_le]; omega)
      rw [nz_le] at hms
      obtain ⟨Q, hQ⟩ : ∃ Q, x.tmod p * s % p = Q := ⟨_, rfl⟩
      have hQ0 : 0 ≤ Q := by rw [← hQ]; exact Int.emod_nonneg _ (by omega)
      have hQp : Q < p := by rw [← hQ]; exact Int.emod_lt_of_pos _ (by omega)
      have hφQ : φ Q = ct r (k + (nu ct g - 1)) * φ s := by
        rw [← hQ, red_md hφ, hφ.2.1, ← hxv]
        congr 1
        rw [red_eq hφ]
        have := Int.mul_tdiv_add_tmod x p
        exact ⟨-(x.tdiv p), by rw [Int.mul_neg]; omega⟩
      rw [e8, bs, hma, eo, bs, j_floorMod (by omega) (by omega), bs, hQ, osJ_n (k := 14) k rfl rfl (show k < 11 by omega), bs]
      have hok2 : ok (oJ Ma 14 k Q) := ok_oJ k1 (by omega)
      have hch2 : chJ [14] Ma (oJ Ma 14 k Q) := chJ_oJ Ma 14 k Q
      obtain ⟨M3, eL, hok3, hc3, hv3, hX3⟩ := c_fdivI K hp hφ hp2 hok2 (k := k) ha hb hab (CP_ch hga hch2 (by simpa using hb14)) hg0 (by omega) hQ0 hQp (X := 1000000000 + (nu ct f + 1 - nu ct g - ((k : Int) + 1)) * 10000000000000000) (by omega) (by omega) (fun j hj => by rw [hch2.2 a j (by simpa using ha14)]; exact hrv j hj) (fun j hj => by rw [hch2.2 a j (by simpa using ha14)]; exact hrX j hj) hn
      rw [eL, bs]
      refine Or.inr ⟨_, rfl, ⟨hok3, chJ_mono (chJ_trans k2 (chJ_trans hch2 hc3)) (fun x hx => by simp at hx ⊢; omega), (k : Int), q + mo K (φ Q) k, r - mo K (φ Q) k * g, by dsimp only; omega, by omega, by omega, by rw [hfe]; grind, fun j h1 h2 => ?_, fun j hj => ?_, hv3, fun j hj => by dsimp only; have := hX3 j hj; omega, fun j hj => ?_, fun j hj => ?_, fun j hj => ?_, fun _ => by omega⟩, by dsimp only; omega⟩
      · rw [p_sub K, mo_mul K]
        by_cases z : j = k + (nu ct g - 1)
        · rw [if_pos (by omega), z, show k + (nu ct g - 1) - k = nu ct g - 1 by omega, hφQ]
          have : ct r (k + (nu ct g - 1)) * φ s * ct g (nu ct g - 1) = ct r (k + (nu ct g - 1)) := by
            rw [show ct r (k + (nu ct g - 1)) * φ s * ct g (nu ct g - 1) = ct r (k + (nu ct g - 1)) * (ct g (nu ct g - 1) * φ s) by grind, hsi]; grind
          rw [this]; grind
        · rw [hr1 j (by omega) (by omega)]
          split
          · rw [nu_hi K g (by omega)]; grind
          · grind
      · rw [p_sub K, mo_mul K, hr2 j hj]
        split
        · rw [nu_hi K g (by omega)]; grind
        · grind
      · dsimp only
        rw [hc3.2 14 j (by simpa using fun z => ha14 z.symm), oJ_1, p_add K, mo_co K]
        by_cases z : j = k
        · rw [if_pos ⟨rfl, z⟩, if_pos z, z, hq3 k (by omega)]
          exact ⟨hQ0, hQp, by grind⟩
        · rw [if_neg (fun w => z w.2), if_neg z]
          obtain ⟨x1, x2, x3⟩ := hqv j hj
          exact ⟨x1, x2, by rw [x3]; grind⟩
      · rw [p_add K, mo_co K, if_neg (by omega), hq2 j hj]; grind
      · rw [p_add K, mo_co K, if_neg (by omega), hq3 j (by omega)]; grind) n (M1, (nu ct f : Int) - nu ct g) ⟨hok1, chJ_refl _ _, (nu ct f : Int) + 1 - nu ct g, 0, f, by dsimp only; omega, by omega, by omega, by grind, fun j h1 h2 => nu_hi K f (by omega), fun j hj => nu_hi K f hj, fun j hj => (hf1.1 j hj).2.2, fun j hj => by dsimp only; have := hf1.1 j hj; rw [nz_le]; omega, fun j hj => by dsimp only; rw [hM1, wrM_1, if_pos (by omega), p_zero K]; exact ⟨by omega, by omega, red_zero hφ⟩, fun j _ => p_zero K j, fun j _ => p_zero K j, fun h => by omega⟩ (by dsimp only; omega)
  have hm22 : M22.1 1 0 = p := by rw [hc22.2 1 0 (by simp; exact fun z => row_ne ha z.symm)]; exact hm1
  obtain ⟨M23, e23, hok23, hc23, r23⟩ := c_reduceG K hp hφ hok22 ha ha hm22 (by omega) hrv (by omega) (fun i hi => by have := nz_le.mp (hrX i hi); omega) hn
  refine ⟨M23, q, r, ?_, hok23, chJ_mono (chJ_trans hc1 (chJ_trans hc22 hc23)) (fun x hx => by simp at hx ⊢; omega), hfe, hr1, r23, ⟨fun i hi => by rw [hc23.2 14 i (by simpa using fun z => ha14 z.symm)]; exact hqv i hi, hqN⟩⟩
  unfold f_X3_divide
  rw [e1, bs, hdb, bs, gI_s (by omega) (by omega), bs, if_pos (by omega), e3, bs, es, bs, hda, bs, show (nu ct f : Int) - 1 - ((nu ct g : Int) - 1) = (nu ct f : Int) - nu ct g by omega, hL, bs, e23, bs]
end MCls4
