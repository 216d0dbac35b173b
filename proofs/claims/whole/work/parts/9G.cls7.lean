/-! the class's splitter: the matrix, its columns cleared -/
section MCls7
theorem oA21 {i : Int} {k : Nat} (hi : i = (k : Int)) (hk : k < 10) : odA 21 i = some (139 + k) := by
  subst hi
  unfold odA
  rw [if_pos ⟨Or.inr rfl, by omega, show (k : Int) < ((10 : Nat) : Int) by omega⟩, Int.toNat_natCast]
  rfl
theorem oA22 {i : Int} {k : Nat} (hi : i = (k : Int)) (hk : k < 10) : odA 22 i = some (149 + k) := by
  subst hi
  unfold odA
  rw [if_pos ⟨Or.inr rfl, by omega, show (k : Int) < ((10 : Nat) : Int) by omega⟩, Int.toNat_natCast]
  rfl
theorem oA20 {i : Int} {k : Nat} (hi : i = (k : Int)) (hk : k < 10) : odA 20 i = some (129 + k) := by
  subst hi
  unfold odA
  rw [if_pos ⟨Or.inr rfl, by omega, show (k : Int) < ((10 : Nat) : Int) by omega⟩, Int.toNat_natCast]
  rfl
theorem oA26 {i : Int} {k : Nat} (hi : i = (k : Int)) (hk : k < 10) : odA 26 i = some (159 + k) := by
  subst hi
  unfold odA
  rw [if_pos ⟨Or.inr rfl, by omega, show (k : Int) < ((10 : Nat) : Int) by omega⟩, Int.toNat_natCast]
  rfl
theorem row_i {a : Nat} (h : 129 ≤ a ∧ a < 169) : row a := by
  have : ∀ b : Fin 40, kd (129 + b.1) = 2 ∧ kn (129 + b.1) = 11 := by decide
  have h2 := this ⟨a - 129, by omega⟩
  rw [show 129 + (a - 129) = a by omega] at h2
  exact h2
/-- ranges of the matrix -/
def MXr (p n : Nat) (M : MI) : Prop := ∀ i j, i < n → j < 11 → 0 ≤ M.1 (139 + i) j ∧ M.1 (139 + i) j < p
theorem c_fillMatrix {R T : Type} [Lean.Grind.CommRing R] [Lean.Grind.CommRing T] {ct : T → Nat → R} (K : isPol ct) {p : Nat} (hp : isZp R p) {φ : Int → R} (hφ : isRed φ p) (hp2 : p ≤ 100000000) {M : MI} (hM : ok M) {a : Nat} (ha : row a) (ha1 : a ≠ 14 ∧ a ≠ 15 ∧ a ≠ 24 ∧ a ≠ 25) (ha2 : ¬ (139 ≤ a ∧ a < 149)) (hm : M.1 1 0 = p) {f : T} (hf : CP ct φ p M a f) (hN2 : 2 ≤ nu ct f) (hf1 : ct f (nu ct f - 1) = 1) {n : Nat} (hn : 18446744073709551616 ≤ n) :
    ∃ (M' : MI) (Rr : Nat → T), f_X6_fillMatrix n a ((nu ct f : Int) - 1) M = some M' ∧ ok M' ∧ chJ [14, 15, 24, 25, 139, 140, 141, 142, 143, 144, 145, 146, 147, 148] M M' ∧ MXr p (nu ct f - 1) M' ∧ (∀ i, i < nu ct f - 1 → nu ct (Rr i) < nu ct f ∧ dv f (mo K 1 1 ^ (i * p) - Rr i)) ∧ (∀ i j, i < nu ct f - 1 → j < nu ct f - 1 → φ (M'.1 (139 + i) j) = ct (Rr i) j - if i = j then 1 else 0) ∧ Rr 0 = 1 := by
  have hp1 := hp.1.1
  have hF := hp.2.2.1
  have hNf := hf.2
  have r24 : row 24 := ⟨rfl, rfl⟩
  have r25 : row 25 := ⟨rfl, rfl⟩
  have hX : nu ct (mo K (1 : R) 1) = 2 := mo_N K 1 hF.1
  have hone : nu ct (1 : T) = 1 := nu_eq K (fun i hi => by rw [p_one K, if_neg (by omega)]) (fun _ => by rw [p_one K, if_pos (by omega)]; exact hF.1)
  have e1 : ∀ N : MI, f_J7_fill_d0a16 n 24 0 N = some (wrM N 24 0 11 (fun _ => 0)) := fun N => j_fill (a := 24) rfl (by decide) 0 hn
  -- the letter
  obtain ⟨M1, hM1⟩ : ∃ M1, M1 = oJ (wrM M 24 0 11 (fun _ => 0)) 24 1 1 := ⟨_, rfl⟩
  have hok1 : ok M1 := by rw [hM1]; exact ok_oJ (ok_wrM hM (fun _ _ => by omega)) (by omega)
  have hc1 : chJ [24] M M1 := by rw [hM1]; exact chJ_mono (chJ_trans (chJ_wr M 24 0 11 _) (chJ_oJ _ 24 1 1)) (fun x hx => by simpa using hx)
  have c1 : CP ct φ p M1 24 (mo K 1 1) := ⟨fun i hi => by
    rw [hM1, oJ_1, mo_co K]
    by_cases z : i = 1
    · rw [if_pos ⟨rfl, z⟩, if_pos z]; exact ⟨by omega, by omega, hφ.2.2.2⟩
    · rw [if_neg (fun w => z w.2), if_neg z, wrM_1, if_pos (by omega)]; exact ⟨by omega, by omega, red_zero hφ⟩, by omega⟩
  have hf1' := CP_ch hf hc1 (by simp; exact ha1.2.2.1)
  have hm1 : M1.1 1 0 = p := by rw [hc1.2 1 0 (by simp)]; exact hm
  obtain ⟨M2, q2, x2, e2, hok2, hc2, hq2, hx2, c2, -⟩ := c_fdivide K hp hφ hp2 hok1 r24 ha (fun z => ha1.2.2.1 z.symm) (by decide) ha1.1 hm1 c1 hf1' (by omega) hn
  have hm2 : M2.1 1 0 = p := by rw [hc2.2 1 0 (by simp)]; exact hm1
  have hf2 := CP_ch hf1' hc2 (by simp; exact ⟨ha1.2.2.1, ha1.1⟩)
  obtain ⟨M3, y3, e3, hok3, hc3, hy3, hn3, c3⟩ := c_raise K hp hφ hp2 hok2 (a := 24) (c := a) (d := 25) r24 ha r25 (by decide) ha1.2.1 (by decide) (by decide) (fun z => ha1.2.2.2 z.symm) hm2 c2 hf2 hN2 hf1 hx2 (e := p) (by omega) hn
  have hm3 : M3.1 1 0 = p := by rw [hc3.2 1 0 (by simp)]; exact hm2
  have hf3 := CP_ch hf2 hc3 (by simp; exact ⟨ha1.2.1, ha1.2.2.2⟩)
  have hxp : dv f (mo K 1 1 ^ p - y3) := by
    have h1 : dv f (mo K 1 1 - x2) := ⟨q2, by rw [hq2]; grind⟩
    exact cg_trans (cg_pw h1 p) hy3
  obtain ⟨M4, hM4⟩ : ∃ M4, M4 = oJ (wrM M3 24 0 11 (fun _ => 0)) 24 0 1 := ⟨_, rfl⟩
  have hok4 : ok M4 := by rw [hM4]; exact ok_oJ (ok_wrM hok3 (fun _ _ => by omega)) (by omega)
  have hc4 : chJ [24] M3 M4 := by rw [hM4]; exact chJ_mono (chJ_trans (chJ_wr M3 24 0 11 _) (chJ_oJ _ 24 0 1)) (fun x hx => by simpa using hx)
  have c4 : CP ct φ p M4 24 1 := ⟨fun i hi => by
    rw [hM4, oJ_1, p_one K]
    by_cases z : i = 0
    · rw [if_pos ⟨rfl, z⟩, if_pos z]; exact ⟨by omega, by omega, hφ.2.2.2⟩
    · rw [if_neg (fun w => z w.2), if_neg z, wrM_1, if_pos (by omega)]; exact ⟨by omega, by omega, red_zero hφ⟩, by omega⟩
  have hf4 := CP_ch hf3 hc4 (by simp; exact ha1.2.2.1)
  have c25 := CP_ch c3 hc4 (by simp)
  have hm4 : M4.1 1 0 = p := by rw [hc4.2 1 0 (by simp)]; exact hm3
  obtain ⟨m, hme⟩ : ∃ m : Nat, m = nu ct f - 1 := ⟨_, rfl⟩
  have em : (nu ct f : Int) - 1 = (m : Int) := by omega
  obtain ⟨M18, hL, hok18, hc18, hX18, Rr, hR, hv, hR0⟩ := lp_do (step := l_X6_fillMatrix_68 n a m) (fun st => ok st.1 ∧ chJ [15, 24, 139, 140, 141, 142, 143, 144, 145, 146, 147, 148] M4 st.1 ∧ ∃ (i : Nat) (Rr : Nat → T) (b : T), st.2 = i ∧ i ≤ m ∧ CP ct φ p st.1 24 b ∧ nu ct b < nu ct f ∧ dv f (mo K 1 1 ^ (i * p) - b) ∧ MXr p i st.1 ∧ (∀ k, k < i → nu ct (Rr k) < nu ct f ∧ dv f (mo K 1 1 ^ (k * p) - Rr k)) ∧ (∀ k j, k < i → j < 11 → φ (st.1.1 (139 + k) j) = ct (Rr k) j - if k = j then 1 else 0) ∧ (i = 0 → b = 1) ∧ (0 < i → Rr 0 = 1)) (fun st => (30 - st.2).toNat) (fun M' => ok M' ∧ chJ [15, 24, 139, 140, 141, 142, 143, 144, 145, 146, 147, 148] M4 M' ∧ MXr p m M' ∧ ∃ Rr : Nat → T, (∀ k, k < m → nu ct (Rr k) < nu ct f ∧ dv f (mo K 1 1 ^ (k * p) - Rr k)) ∧ (∀ k j, k < m → j < 11 → φ (M'.1 (139 + k) j) = ct (Rr k) j - if k = j then 1 else 0) ∧ Rr 0 = 1) (fun st hst => by
    obtain ⟨Ma, y⟩ := st
    obtain ⟨k1, k2, i, Rr, b, hy, him, cb, hbn, hbd, hXa, hR, hv, hb1, hR0⟩ := hst
    dsimp only at k1 k2 hy cb hXa hv
    subst hy
    have hma : Ma.1 1 0 = p := by rw [k2.2 1 0 (by simp)]; exact hm4
    unfold l_X6_fillMatrix_68
    dsimp only
    rw [gI_s (by omega) (by omega), bs]
    by_cases hlt : (m : Int) ≤ i
    · rw [if_pos hlt]
      have e : i = m := by omega
      subst e
      exact Or.inl ⟨_, rfl, k1, k2, hXa, Rr, hR, hv, hR0 (by omega)⟩
    · have hi10 : i < 10 := by omega
      have ri : row (139 + i) := row_i (by omega)
      obtain ⟨Mb, eb, hokb, hcb, cbi⟩ := c_copyP k1 r24 ri cb
      obtain ⟨w1, w2, w3⟩ := cbi.1 i (by omega)
      have hmb : Mb.1 1 0 = p := by rw [hcb.2 1 0 (by simp; omega)]; exact hma
      obtain ⟨v, hvv⟩ : ∃ v, (Mb.1 (139 + i) i - 1) % p = v := ⟨_, rfl⟩
      have hv0 : 0 ≤ v := by rw [← hvv]; exact Int.emod_nonneg _ (by omega)
      have hvp : v < p := by rw [← hvv]; exact Int.emod_lt_of_pos _ (by omega)
      have hvφ : φ v = ct b i - 1 := by rw [← hvv, red_md hφ, red_sub hφ, hφ.2.2.2, w3]
      have hokc : ok (oJ Mb (139 + i) i v) := ok_oJ hokb (by omega)
      have hcc : chJ [139 + i] Mb (oJ Mb (139 + i) i v) := chJ_oJ Mb (139 + i) i v
      have cbc := CP_ch (CP_ch cb hcb (by simp; omega)) hcc (by simp; omega)
      have c25c := CP_ch (CP_ch (CP_ch c25 k2 (by simp)) hcb (by simp; omega)) hcc (by simp; omega)
      have hfc := CP_ch (CP_ch (CP_ch hf4 k2 (by simp; exact ⟨ha1.2.1, ha1.2.2.1, by omega, by omega, by omega, by omega, by omega, by omega, by omega, by omega, by omega, by omega⟩)) hcb (by simp; omega)) hcc (by simp; omega)
      have hmc : (oJ Mb (139 + i) i v).1 1 0 = p := by rw [hcc.2 1 0 (by simp; omega)]; exact hmb
      obtain ⟨Md, q, b', ed, hokd, hcd, hq, hb', cd⟩ := c_multiply K hp hφ hp2 hokc (a := 24) (b := 25) (c := a) (d := 24) r24 r25 ha r24 (by decide) (by decide) ha1.2.1 (by decide) hmc cbc c25c hfc hN2 hf1 hbn hn3 hn
      rw [em] at ed
      rw [if_neg hlt, oA21 rfl hi10, bs, eb, bs, bs, bs, odJ_n i ri.1 rfl (by rw [ri.2]; omega), bs, hmb, j_floorMod (by omega) (by omega), bs, hvv, osJ_n i ri.1 rfl (by rw [ri.2]; omega), bs, ed, bs]
      have hrowk : ∀ k, k < i → ∀ j, Md.1 (139 + k) j = Ma.1 (139 + k) j := fun k hk j => by
        rw [hcd.2 (139 + k) j (by simp; omega), hcc.2 (139 + k) j (by simp; omega), hcb.2 (139 + k) j (by simp; omega)]
      have hrowi : ∀ j, j < 11 → Md.1 (139 + i) j = if j = i then v else Mb.1 (139 + i) j := fun j hj => by
        rw [hcd.2 (139 + i) j (by simp; omega), oJ_1]
        by_cases z : j = i
        · rw [if_pos ⟨rfl, z⟩, if_pos z]
        · rw [if_neg (fun w => z w.2), if_neg z]
      have hcad : chJ [15, 24, 139, 140, 141, 142, 143, 144, 145, 146, 147, 148] M4 Md := chJ_mono (chJ_trans k2 (chJ_trans hcb (chJ_trans hcc hcd))) (fun x hx => by simp at hx ⊢; omega)
      refine Or.inr ⟨_, rfl, ⟨hokd, hcad, i + 1, fun k => if k = i then b else Rr k, b', by dsimp only; omega, by omega, cd, hb', ?_, fun k j hk hj => ?_, fun k hk => ?_, fun k j hk hj => ?_, fun h => by omega, fun _ => ?_⟩, by dsimp only; omega⟩
      · obtain ⟨u, hu⟩ := hbd
        obtain ⟨w, hw⟩ := hxp
        have e5 : mo K (1 : R) 1 ^ ((i + 1) * p) = mo K 1 1 ^ (i * p) * mo K 1 1 ^ p := by rw [← pw_add, Nat.succ_mul]
        refine ⟨u * mo K 1 1 ^ p + b * w + q, ?_⟩
        rw [e5]
        have h8 : mo K (1 : R) 1 ^ (i * p) = b + f * u := by rw [← hu]; grind
        have h9 : mo K (1 : R) 1 ^ p = y3 + f * w := by rw [← hw]; grind
        have h10 : b' = b * y3 - q * f := by rw [hq]; grind
        rw [h8, h10]
        have h11 : b * y3 = b * (mo K 1 1 ^ p - f * w) := by rw [h9]; grind
        rw [h11]; grind
      · dsimp only
        rcases Nat.lt_or_ge k i with z | z
        · rw [hrowk k z]; exact hXa k j z hj
        · rw [show k = i by omega, hrowi j hj]
          split
          · exact ⟨hv0, hvp⟩
          · have := cbi.1 j hj; exact ⟨this.1, this.2.1⟩
      · dsimp only
        by_cases z : k = i
        · rw [if_pos z, z]; exact ⟨hbn, hbd⟩
        · rw [if_neg z]; exact hR k (by omega)
      · dsimp only
        by_cases z : k = i
        · rw [if_pos z, z, hrowi j hj]
          by_cases y : j = i
          · rw [if_pos y, if_pos y.symm, hvφ, y]
          · rw [if_neg y, if_neg (fun w => y w.symm), (cbi.1 j hj).2.2]; grind
        · rw [if_neg z, hrowk k (by omega)]; exact hv k j (by omega) hj
      · dsimp only
        by_cases z : i = 0
        · rw [if_pos z.symm]; exact hb1 z
        · rw [if_neg (fun w => z w.symm)]; exact hR0 (by omega)) n (M4, 0) ⟨hok4, chJ_refl _ _, 0, fun _ => 0, 1, rfl, by omega, c4, by omega, by rw [Nat.zero_mul, pw_zero]; exact ⟨0, by grind⟩, fun i j hi => absurd hi (by omega), fun k hk => absurd hk (by omega), fun k j hk => absurd hk (by omega), fun _ => rfl, fun h => absurd h (by omega)⟩ (by dsimp only; omega)
  refine ⟨M18, Rr, ?_, hok18, chJ_mono (chJ_trans hc1 (chJ_trans hc2 (chJ_trans hc3 (chJ_trans hc4 hc18)))) (fun x hx => by simp at hx ⊢; omega), by rw [← hme]; exact hX18, fun i hi => hR i (by omega), fun i j hi hj => hv i j (by omega) (by omega), hR0⟩
  unfold f_X6_fillMatrix
  rw [e1, bs, osJ_n (k := 24) (i := 1) 1 rfl rfl (show 1 < 11 by omega), bs, ← hM1, e2, bs, hm2, e3, bs, e1, bs, osJ_n (k := 24) (i := 0) 0 rfl rfl (show 0 < 11 by omega), bs, ← hM4, em, hL, bs]
theorem c_findPivot {R : Type} [Lean.Grind.CommRing R] {p : Nat} {φ : Int → R} (hφ : isRed φ p) {M : MI} (hM : ok M) {m r : Nat} (hm : m ≤ 10) (hr : r < m) (hX : MXr p m M) {n : Nat} (hn : 18446744073709551616 ≤ n) : (∃ c, c < m ∧ f_X6_findPivot n r m M = some (c : Int) ∧ M.2 23 c < 0 ∧ φ (M.1 (139 + r) c) ≠ 0) ∨ (f_X6_findPivot n r m M = some (-1) ∧ ∀ c, c < m → M.2 23 c < 0 → φ (M.1 (139 + r) c) = 0) := by
  have ri : row (139 + r) := row_i (by omega)
  have hz : ∀ c, c < m → (M.1 (139 + r) c = 0 ↔ φ (M.1 (139 + r) c) = 0) := fun c hc => by
    obtain ⟨h1, h2⟩ := hX r c hr (by omega)
    rw [hφ.2.2.1]
    constructor
    · intro q; rw [q]; exact ⟨0, by omega⟩
    · intro q
      apply Classical.byContradiction
      intro hne
      have := Int.le_of_dvd (by omega) q
      omega
  obtain ⟨o, ho, ho2⟩ := lp_do (step := l_X6_findPivot_2 r m M) (fun st => ∃ c : Nat, st = c ∧ c ≤ m ∧ ∀ d, d < c → M.2 23 d < 0 → φ (M.1 (139 + r) d) = 0) (fun st => (20 - st).toNat) (fun o => (∃ c : Nat, c < m ∧ o = .inl (c : Int) ∧ M.2 23 c < 0 ∧ φ (M.1 (139 + r) c) ≠ 0) ∨ (o = .inr () ∧ ∀ c, c < m → M.2 23 c < 0 → φ (M.1 (139 + r) c) = 0)) (fun st hst => by
    obtain ⟨c, hc, hcm, hno⟩ := hst
    subst hc
    unfold l_X6_findPivot_2
    rw [gI_s (by omega) (by omega), bs]
    by_cases hlt : (m : Int) ≤ c
    · rw [if_pos hlt]
      exact Or.inl ⟨_, rfl, Or.inr ⟨rfl, fun d hd => hno d (by omega)⟩⟩
    · have hi := hM.2 23 c
      rw [if_neg hlt, odI_n (k := 23) c rfl rfl (show c < 10 by omega), bs, gI_s hi (by omega), bs]
      by_cases hp : 0 ≤ M.2 23 c
      · rw [if_pos hp]
        refine Or.inr ⟨_, rfl, ⟨c + 1, by omega, by omega, fun d hd hd2 => ?_⟩, by omega⟩
        rcases Nat.lt_or_ge d c with z | z
        · exact hno d z hd2
        · rw [show d = c by omega] at hd2; omega
      · rw [if_neg hp, oA21 rfl (by omega), bs, odJ_n c ri.1 rfl (by rw [ri.2]; omega), bs, gJ_s (hM.1 _ _) (by omega), bs]
        by_cases h0 : M.1 (139 + r) c = 0
        · rw [if_pos h0]
          refine Or.inr ⟨_, rfl, ⟨c + 1, by omega, by omega, fun d hd hd2 => ?_⟩, by omega⟩
          rcases Nat.lt_or_ge d c with z | z
          · exact hno d z hd2
          · rw [show d = c by omega]; exact (hz c (by omega)).mp h0
        · rw [if_neg h0]
          exact Or.inl ⟨_, rfl, Or.inl ⟨c, by omega, rfl, by omega, fun z => h0 ((hz c (by omega)).mpr z)⟩⟩) n 0 ⟨0, rfl, by omega, fun d hd => absurd hd (by omega)⟩ (by omega)
  unfold f_X6_findPivot
  rw [ho, bs]
  rcases ho2 with ⟨c, hc, q, h1, h2⟩ | ⟨q, h⟩
  · rw [q]; exact Or.inl ⟨c, hc, rfl, h1, h2⟩
  · rw [q]; exact Or.inr ⟨rfl, h⟩
end MCls7
