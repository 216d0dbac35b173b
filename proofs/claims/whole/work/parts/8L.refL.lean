/-! frames where the modulus changes; many primes; a row times a constant -/
section MRefL
def chm (Rs F : List Nat) (M M' : MI) : Prop := (∀ k i, k ≠ 41 → ¬ (k = 36 ∧ i = 9) → M'.1 k i = M.1 k i) ∧ (∀ k i, k ≠ 42 → ¬ (k = 36 ∧ i ∈ F) → M'.2 k i = M.2 k i) ∧ (∀ s j, s ∉ Rs → j < 24 → wv M' s j = wv M s j) ∧ (∀ s, s ∉ Rs → dg M' s = dg M s)
theorem chm_of {Rs F : List Nat} {M M' : MI} (h : chg Rs M M') : chm Rs F M M' := ⟨fun k i h1 _ => h.1 k i h1, fun k i h1 _ => h.2.1 k i h1, h.2.2.1, h.2.2.2⟩
theorem chm_refl (Rs F : List Nat) (M : MI) : chm Rs F M M := chm_of (chg_refl _ _)
theorem chm_trans {Rs Qs F : List Nat} {M M' M'' : MI} (h : chm Rs F M M') (h1 : chm Qs F M' M'') : chm (Rs ++ Qs) F M M'' :=
  ⟨fun k i a b => (h1.1 k i a b).trans (h.1 k i a b), fun k i a b => (h1.2.1 k i a b).trans (h.2.1 k i a b), fun s j a b => by
    simp only [List.mem_append, not_or] at a
    exact (h1.2.2.1 s j a.2 b).trans (h.2.2.1 s j a.1 b), fun s a => by
    simp only [List.mem_append, not_or] at a
    exact (h1.2.2.2 s a.2).trans (h.2.2.2 s a.1)⟩
theorem chm_mono {Rs Qs F G : List Nat} {M M' : MI} (h : chm Rs F M M') (hs : ∀ x ∈ Rs, x ∈ Qs) (hf : ∀ x ∈ F, x ∈ G) : chm Qs G M M' :=
  ⟨h.1, fun k i a b => h.2.1 k i a (fun c => b ⟨c.1, hf _ c.2⟩), fun s j a b => h.2.2.1 s j (fun c => a (hs s c)) b, fun s a => h.2.2.2 s (fun c => a (hs s c))⟩
theorem chm_md (F : List Nat) (M : MI) (z : Int) : chm [] F M (oJ M 36 9 z) := ⟨fun k i _ h => by rw [oJ_1, if_neg h], fun _ _ _ _ => rfl, fun s j _ _ => by show (oJ M 36 9 z).1 41 _ = _; rw [oJ_1, if_neg (by omega)], fun _ _ => rfl⟩
theorem chm_fl {F : List Nat} (M : MI) {i : Nat} (hi : i ∈ F) (z : Int) : chm [] F M (oI M 36 i z) := ⟨fun _ _ _ _ => rfl, fun k j _ h => by rw [oI_2, if_neg (fun c => h ⟨c.1, by rw [c.2]; exact hi⟩)], fun _ _ _ _ => rfl, fun s _ => by show (oI M 36 i z).2 42 _ = _; rw [oI_2, if_neg (by omega)]⟩
theorem RZ_chm {S : Type} [Lean.Grind.CommRing S] {co : S → Nat → Int} {M M' : MI} {s : Nat} {f : S} {Rs F : List Nat} (h : RZ co M s f) (hc : chm Rs F M M') (hs : s ∉ Rs) (hN : nu co f ≤ 24) : RZ co M' s f :=
  ⟨(hc.2.2.2 s hs).trans h.1, fun j hj => (hc.2.2.1 s j hs (by omega)).trans (h.2 j hj)⟩
theorem RP_chm {R T : Type} [Lean.Grind.CommRing R] [Lean.Grind.CommRing T] {ct : T → Nat → R} {φ : Int → R} {m : Int} {M M' : MI} {s : Nat} {f : T} {Rs F : List Nat} (h : RP ct φ m M s f) (hc : chm Rs F M M') (hs : s ∉ Rs) (hN : nu ct f ≤ 24) : RP ct φ m M' s f :=
  ⟨(hc.2.2.2 s hs).trans h.1, fun j hj => by rw [hc.2.2.1 s j hs (by omega)]; exact h.2 j hj⟩
def pdN (f : Nat → Nat) : Nat → Nat
  | 0 => 1
  | k + 1 => pdN f k * f k
theorem pdN_mem {f : Nat → Nat} {q : Nat} (hq : prm q) : ∀ {k : Nat}, (∀ j, j < k → prm (f j)) → q ∣ pdN f k → ∃ j, j < k ∧ q = f j
  | 0, _, h => by
    have h1 := Nat.le_of_dvd (show 0 < pdN f 0 from Nat.one_pos) h
    have h2 := hq.1
    simp only [pdN] at h1
    omega
  | k + 1, hf, h => by
    rcases prm_dv hq h with a | a
    · obtain ⟨j, hj, e⟩ := pdN_mem hq (fun j hj => hf j (by omega)) a
      exact ⟨j, by omega, e⟩
    · rcases (hf k (by omega)).2 q a with b | b
      · have := hq.1; omega
      · exact ⟨k, by omega, b⟩
theorem pdN_dv {f : Nat → Nat} {C : Nat} : ∀ {k : Nat}, (∀ j, j < k → prm (f j)) → (∀ i j, i < j → j < k → f i ≠ f j) → (∀ j, j < k → f j ∣ C) → pdN f k ∣ C
  | 0, _, _, _ => Nat.one_dvd C
  | k + 1, hf, hi, h => by
    obtain ⟨m, hm⟩ := pdN_dv (fun j hj => hf j (by omega)) (fun i j a b => hi i j a (by omega)) (fun j hj => h j (by omega)) (k := k)
    have h1 := h k (by omega)
    rw [hm] at h1
    rcases prm_dv (hf k (by omega)) h1 with a | a
    · obtain ⟨j, hj, e⟩ := pdN_mem (hf k (by omega)) (fun j hj => hf j (by omega)) a
      exact absurd e.symm (hi j k hj (by omega))
    · obtain ⟨w, hw⟩ := a
      exact ⟨w, by simp only [pdN]; rw [hm, hw, Nat.mul_assoc]⟩
def PB (k : Nat) : Nat := [11, 39, 41, 63, 101, 123, 137, 143, 153, 233, 293, 303, 327, 383, 389, 401, 411, 423, 429, 471].getD k 0
def pbp (k : Nat) : Nat := 1000000000000 - PB k
theorem pb_prm (k : Nat) (hk : k < 13) : prm (pbp k) ∧ pbp k % 2 = 1 ∧ 999999999000 ≤ pbp k ∧ pbp k ≤ 1000000000000 ∧ (pbp k : Int) = 1000000000000 - (PB k : Int) := by
  have hc : k = 0 ∨ k = 1 ∨ k = 2 ∨ k = 3 ∨ k = 4 ∨ k = 5 ∨ k = 6 ∨ k = 7 ∨ k = 8 ∨ k = 9 ∨ k = 10 ∨ k = 11 ∨ k = 12 := by omega
  rcases hc with rfl | rfl | rfl | rfl | rfl | rfl | rfl | rfl | rfl | rfl | rfl | rfl | rfl
  · exact ⟨pr_999999999989, by decide, by decide, by decide, by decide⟩
  · exact ⟨pr_999999999961, by decide, by decide, by decide, by decide⟩
  · exact ⟨pr_999999999959, by decide, by decide, by decide, by decide⟩
  · exact ⟨pr_999999999937, by decide, by decide, by decide, by decide⟩
  · exact ⟨pr_999999999899, by decide, by decide, by decide, by decide⟩
  · exact ⟨pr_999999999877, by decide, by decide, by decide, by decide⟩
  · exact ⟨pr_999999999863, by decide, by decide, by decide, by decide⟩
  · exact ⟨pr_999999999857, by decide, by decide, by decide, by decide⟩
  · exact ⟨pr_999999999847, by decide, by decide, by decide, by decide⟩
  · exact ⟨pr_999999999767, by decide, by decide, by decide, by decide⟩
  · exact ⟨pr_999999999707, by decide, by decide, by decide, by decide⟩
  · exact ⟨pr_999999999697, by decide, by decide, by decide, by decide⟩
  · exact ⟨pr_999999999673, by decide, by decide, by decide, by decide⟩
theorem pb_inj : ∀ i j, i < j → j < 11 → pbp i ≠ pbp j := by
  intro i j h1 h2
  have : ∀ j : Fin 11, ∀ i : Fin 11, i.1 < j.1 → pbp i.1 ≠ pbp j.1 := by decide
  exact this ⟨j, h2⟩ ⟨i, by omega⟩ h1
theorem pb_no {C : Nat} (hC : C ≠ 0) (hB : C ≤ 2200000 ^ 20) (h : ∀ j, j < 11 → pbp j ∣ C) : False := by
  have h1 := Nat.le_of_dvd (by omega) (pdN_dv (f := pbp) (k := 11) (fun j hj => (pb_prm j (by omega)).1) pb_inj h)
  have h2 : 2200000 ^ 20 < pdN pbp 11 := by decide
  omega
theorem s_scale {R T : Type} [Lean.Grind.CommRing T] [Lean.Grind.CommRing R] {ct : T → Nat → R} (K : isPol ct) {p : Nat} (hp : isZp R p) {φ : Int → R} (hφ : isRed φ p) {M : MI} (hM : ok M) (hm : M.1 36 9 = p) (hm2 : p ≤ 1000000000000) {f : T} (hf : RP ct φ p M 7 f) (hN : nu ct f ≤ 24) {c : Int} (hc : 0 < c) (hc2 : c < p) {n : Nat} (hn : 18446744073709551616 ≤ n) : ∃ M', lpF (l_X8_commonWhole_136 c) n (M, 0) = some M' ∧ ok M' ∧ chg [7] M M' ∧ RP ct φ p M' 7 (mo K (φ c) 0 * f) ∧ nu ct (mo K (φ c) 0 * f) = nu ct f := by
  have hp2 := hp.1.1
  have hd : dg M 7 = (nu ct f : Int) - 1 := hf.1
  have hc0 : φ c ≠ 0 := fun h => by
    have h1 := Int.le_of_dvd hc ((hφ.2.2.1 c).mp h)
    omega
  have hNe : nu ct (mo K (φ c) 0 * f) = nu ct f := nu_eq K (fun i hi => by rw [mo_0 K, nu_hi K f hi]; grind) (fun h0 q => by
    rw [mo_0 K] at q
    rcases isF_D hp.2.2.1 _ _ q with a | a
    · exact hc0 a
    · exact nu_top K f h0 a)
  have hL : lpF (l_X8_commonWhole_136 c) n (M, 0) = some (wrM M 41 168 (nu ct f) (fun i => wv M 7 i * c % p)) := by
    have e := lp_for (step := l_X8_commonWhole_136 c) (fun k => (wrM M 41 168 k (fun i => wv M 7 i * c % p), (k : Int))) (wrM M 41 168 (nu ct f) (fun i => wv M 7 i * c % p)) (nu ct f) n (fun k hk => by
      obtain ⟨w1, w2, -⟩ := hf.2 k hk
      have hw : (wrM M 41 168 k (fun i => wv M 7 i * c % p)).1 41 (168 + k) = wv M 7 k := by rw [wrM_1, if_neg (by omega)]
      have hm' : (wrM M 41 168 k (fun i => wv M 7 i * c % p)).1 36 9 = p := by rw [wrM_1, if_neg (by omega), hm]
      have e9 : wv M 7 k * c % p = (fun i => wv M 7 i * c % p) k := rfl
      unfold l_X8_commonWhole_136
      dsimp only
      rw [odI_n (i := 7) 7 rfl rfl (by rw [k42.2]; omega), bs, show (wrM M 41 168 k (fun i => wv M 7 i * c % p)).2 42 7 = (nu ct f : Int) - 1 from hd, gI_s (by omega) (by omega), bs, if_neg (by omega), odJ_n (168 + k) rfl (by omega) (by rw [k41.2]; omega), bs, hw, s_product hm' (by omega) (by omega) w1 w2 (by omega) hc2, bs, osJ_n (168 + k) rfl (by omega) (by rw [k41.2]; omega), bs, e9, wrM_s]
      rfl) (by
      unfold l_X8_commonWhole_136
      dsimp only
      rw [odI_n (i := 7) 7 rfl rfl (by rw [k42.2]; omega), bs, show (wrM M 41 168 (nu ct f) (fun i => wv M 7 i * c % p)).2 42 7 = (nu ct f : Int) - 1 from hd, gI_s (by omega) (by omega), bs, if_pos (by omega)]) (by omega)
    rw [wrM_0] at e
    exact e
  have hb : ∀ i : Nat, 0 ≤ wv M 7 i * c % p ∧ wv M 7 i * c % p < p := fun i => ⟨Int.emod_nonneg _ (by omega), Int.emod_lt_of_pos _ (by omega)⟩
  refine ⟨_, hL, ok_wrM hM (fun i hi => by have := hb i; omega), chg_wrM M 7 _ hN _, ⟨by rw [hNe]; exact hd, fun j hj => ?_⟩, hNe⟩
  rw [hNe] at hj
  rw [show (168 : Nat) = 24 * 7 from rfl, wv_wrM _ _ _ hN _ (by omega), if_pos ⟨rfl, hj⟩, mo_0 K]
  refine ⟨(hb j).1, (hb j).2, ?_⟩
  rw [red_md hφ, hφ.2.1, (hf.2 j hj).2.2]
  grind
end MRefL
