/-! rows as polynomials -/
section MRef5
/-- only the rows Rs change -/
def chg (Rs : List Nat) (M M' : MI) : Prop := (∀ k i, k ≠ 41 → M'.1 k i = M.1 k i) ∧ (∀ k i, k ≠ 42 → M'.2 k i = M.2 k i) ∧ (∀ s j, s ∉ Rs → j < 24 → wv M' s j = wv M s j) ∧ (∀ s, s ∉ Rs → dg M' s = dg M s)
theorem chg_refl (Rs : List Nat) (M : MI) : chg Rs M M := ⟨fun _ _ _ => rfl, fun _ _ _ => rfl, fun _ _ _ _ => rfl, fun _ _ => rfl⟩
theorem chg_trans {Rs Qs : List Nat} {M M' M'' : MI} (h : chg Rs M M') (h1 : chg Qs M' M'') : chg (Rs ++ Qs) M M'' :=
  ⟨fun k i hk => (h1.1 k i hk).trans (h.1 k i hk), fun k i hk => (h1.2.1 k i hk).trans (h.2.1 k i hk), fun s j hs hj => (h1.2.2.1 s j (fun q => hs (List.mem_append_right _ q)) hj).trans (h.2.2.1 s j (fun q => hs (List.mem_append_left _ q)) hj), fun s hs => (h1.2.2.2 s (fun q => hs (List.mem_append_right _ q))).trans (h.2.2.2 s (fun q => hs (List.mem_append_left _ q)))⟩
theorem chg_mono {Rs Qs : List Nat} {M M' : MI} (h : chg Rs M M') (hs : ∀ x ∈ Rs, x ∈ Qs) : chg Qs M M' :=
  ⟨h.1, h.2.1, fun s j q hj => h.2.2.1 s j (fun z => q (hs s z)) hj, fun s q => h.2.2.2 s (fun z => q (hs s z))⟩
theorem chg_oI {M : MI} {s : Nat} (d : Int) : chg [s] M (oI M 42 s d) :=
  ⟨fun _ _ _ => rfl, fun k i hk => by rw [oI_2, if_neg (fun q => hk q.1)], fun _ _ _ _ => rfl, fun a ha => by
    show (oI M 42 s d).2 42 a = _
    rw [oI_2, if_neg (fun q => ha (by rw [q.2]; exact List.mem_singleton.mpr rfl))]⟩
theorem chg_win {M M' : MI} {s : Nat} (h2 : M'.2 = M.2) (h1 : ∀ k i, ¬ (k = 41 ∧ 24 * s ≤ i ∧ i < 24 * s + 24) → M'.1 k i = M.1 k i) : chg [s] M M' :=
  ⟨fun k i hk => h1 k i (fun q => hk q.1), fun k i _ => by rw [h2], fun a j ha hj => h1 41 (24 * a + j) (fun q => ha (by rw [show a = s by omega]; exact List.mem_singleton.mpr rfl)), fun a _ => by show M'.2 42 a = _; rw [h2]⟩
def RP {R T : Type} [Lean.Grind.CommRing R] [Lean.Grind.CommRing T] (ct : T → Nat → R) (φ : Int → R) (m : Int) (M : MI) (s : Nat) (f : T) : Prop := dg M s = (nu ct f : Int) - 1 ∧ ∀ j, j < nu ct f → 0 ≤ wv M s j ∧ wv M s j < m ∧ φ (wv M s j) = ct f j
def RZ {S : Type} [Lean.Grind.CommRing S] (co : S → Nat → Int) (M : MI) (s : Nat) (f : S) : Prop := dg M s = (nu co f : Int) - 1 ∧ ∀ j, j < nu co f → wv M s j = co f j
theorem RP_chg {R T : Type} [Lean.Grind.CommRing R] [Lean.Grind.CommRing T] {ct : T → Nat → R} {φ : Int → R} {m : Int} {M M' : MI} {s : Nat} {f : T} {Rs : List Nat} (h : RP ct φ m M s f) (hc : chg Rs M M') (hs : s ∉ Rs) (hN : nu ct f ≤ 24) : RP ct φ m M' s f :=
  ⟨(hc.2.2.2 s hs).trans h.1, fun j hj => by rw [hc.2.2.1 s j hs (by omega)]; exact h.2 j hj⟩
theorem RZ_chg {S : Type} [Lean.Grind.CommRing S] {co : S → Nat → Int} {M M' : MI} {s : Nat} {f : S} {Rs : List Nat} (h : RZ co M s f) (hc : chg Rs M M') (hs : s ∉ Rs) (hN : nu co f ≤ 24) : RZ co M' s f :=
  ⟨(hc.2.2.2 s hs).trans h.1, fun j hj => by rw [hc.2.2.1 s j hs (by omega)]; exact h.2 j hj⟩
/-- trim finds the degree -/
theorem s_trimP {R T : Type} [Lean.Grind.CommRing R] [Lean.Grind.CommRing T] {ct : T → Nat → R} (K : isPol ct) {p : Nat} {φ : Int → R} (hφ : isRed φ p) {M : MI} (hM : ok M) {s : Nat} (hs : s < 60) {t : Int} (ht : t ≤ 23) (ht0 : -1 ≤ t) {f : T} (hf : ∀ j : Nat, (j : Int) ≤ t → 0 ≤ wv M s j ∧ wv M s j < p ∧ φ (wv M s j) = ct f j) (hf2 : ∀ j : Nat, t < j → ct f j = 0) {n : Nat} (hn : 18446744073709551616 ≤ n) : f_X8_trim n s t M = some (oI M 42 s ((nu ct f : Int) - 1)) ∧ RP ct φ p (oI M 42 s ((nu ct f : Int) - 1)) s f ∧ ok (oI M 42 s ((nu ct f : Int) - 1)) := by
  obtain ⟨d, h1, h2, h3, h4, h5⟩ := s_trim hM hs ht (by omega) (n := n) (by omega)
  have hz : ∀ j : Nat, (j : Int) ≤ t → (wv M s j = 0 ↔ ct f j = 0) := by
    intro j hj
    obtain ⟨a1, a2, a3⟩ := hf j hj
    rw [← a3, hφ.2.2.1]
    constructor
    · intro q; rw [q]; exact ⟨0, by omega⟩
    · intro q
      apply Classical.byContradiction
      intro hne
      have := Int.le_of_dvd (by omega) q
      omega
  have hd : d = (nu ct f : Int) - 1 := by
    have e : nu ct f = (d + 1).toNat := nu_eq K (fun i hi => by
      rcases Int.lt_or_le t i with q | q
      · exact hf2 i q
      · exact (hz i q).mp (h4 i (by omega) q)) (fun hne => by
      have e2 : d = (((d + 1).toNat - 1 : Nat) : Int) := by omega
      exact fun q => h5 _ e2 ((hz _ (by omega)).mpr q))
    omega
  rw [hd] at h1 h2
  refine ⟨h1, ⟨?_, fun j hj => ?_⟩, ok_oI hM (by omega)⟩
  · show (oI M 42 s ((nu ct f : Int) - 1)).2 42 s = _
    rw [oI_2, if_pos ⟨rfl, rfl⟩]
  · exact hf j (by omega)
theorem s_reduce {S T R : Type} [Lean.Grind.CommRing S] [Lean.Grind.CommRing T] [Lean.Grind.CommRing R] {co : S → Nat → Int} (P : isPol co) {ct : T → Nat → R} (K : isPol ct) {p : Nat} (hp : isZp R p) {φ : Int → R} (hφ : isRed φ p) {M : MI} (hM : ok M) {s : Nat} (hs : s < 60) (hm : M.1 36 9 = p) (hm2 : p ≤ 1000000000000) {f : S} (hf : RZ co M s f) (hN : nu co f ≤ 24) (hw : ∀ j, -9223372036854775807 ≤ co f j) {n : Nat} (hn : 18446744073709551616 ≤ n) : ∃ M', f_X8_reduce n s M = some M' ∧ ok M' ∧ chg [s] M M' ∧ RP ct φ p M' s (rd P K hp hφ f) := by
  have hp2 := hp.1.1
  have hd := hf.1
  have eD : dg M s = M.2 42 s := rfl
  have hL := s_reduceL hM hs hm (by omega) (by omega) (by omega) (fun j hj => by rw [hf.2 j (by omega)]; exact hw j) hn
  have hok : ok (rdM M s p (dg M s + 1).toNat) := ⟨fun k i => by
    unfold rdM; dsimp only
    split
    · have := Int.emod_nonneg (M.1 41 i) (show (p : Int) ≠ 0 by omega)
      have := Int.emod_lt_of_pos (M.1 41 i) (show (0 : Int) < p by omega)
      omega
    · exact hM.1 k i, hM.2⟩
  have hch : chg [s] M (rdM M s p (dg M s + 1).toNat) := chg_win rfl (fun k i h => by unfold rdM; dsimp only; rw [if_neg (by omega)])
  obtain ⟨h1, h2, h3⟩ := s_trimP K hφ hok hs (t := dg M s) (by omega) (by omega) (f := rd P K hp hφ f) (fun j hj => by
    have e : wv (rdM M s p (dg M s + 1).toNat) s j = wv M s j % p := by
      show (rdM M s p (dg M s + 1).toNat).1 41 (24 * s + j) = _
      unfold rdM; dsimp only
      rw [if_pos (by omega)]
    rw [e]
    refine ⟨Int.emod_nonneg _ (by omega), Int.emod_lt_of_pos _ (by omega), ?_⟩
    rw [rd_co P K hp hφ, ← hf.2 j (by omega), red_eq hφ]
    have := Int.mul_ediv_add_emod (wv M s j) p
    exact ⟨-(wv M s j / p), by rw [Int.mul_neg]; omega⟩) (fun j hj => by rw [rd_co P K hp hφ, nu_hi P f (by omega)]; exact red_zero hφ) hn
  refine ⟨_, ?_, h3, chg_mono (chg_trans hch (chg_oI _)) (fun x hx => by simpa using hx), h2⟩
  unfold f_X8_reduce
  rw [odI_n s rfl rfl (by rw [k42.2]; exact hs), bs, ← eD, hL, bs, h1, bs]
end MRef5
