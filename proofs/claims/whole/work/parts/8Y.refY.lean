/-! run, the reference's -/
section MRefY
theorem s_isPoly (a : Int) (ha : inI a) : f_X8_isPoly a = some (if 0 ≤ a ∧ a < 80 then 1 else 0) := by
  unfold f_X8_isPoly
  rw [gI_s ha (by omega), bs]
  by_cases h1 : a < 0
  · rw [if_pos h1, bs, if_neg (by omega)]; rfl
  · rw [if_neg h1, gI_s ha (by omega), bs]
    by_cases h2 : 80 ≤ a
    · rw [if_pos h2, bs, if_neg (by omega)]; rfl
    · rw [if_neg h2, bs, if_pos (by omega)]; rfl
def FSet {S : Type} [Lean.Grind.CommRing S] {co : S → Nat → Int} (P : isPol co) (F : S) (k : Nat) (fo : Nat → S) (es : Nat → Nat) : Prop := (∀ i, i < k → irz co (fo i) ∧ dv (fo i) F ∧ EX (fo i) F (es i)) ∧ (∀ π, irz co π → dv π F → ∃ i, i < k ∧ fo i = π) ∧ ∀ a b, a < b → b < k → ltz co (fo a) (fo b)
theorem FSet_le {S : Type} [Lean.Grind.CommRing S] {co : S → Nat → Int} (P : isPol co) {F : S} {k k' : Nat} {fo fo' : Nat → S} {es es' : Nat → Nat} (h : FSet P F k fo es) (h' : FSet P F k' fo' es') : ∀ i, i < k → i < k' ∧ fo i = fo' i := by
  intro i
  induction i using Nat.strongRecOn with
  | ind i ih =>
    intro hi
    obtain ⟨a1, a2, a3⟩ := id h
    obtain ⟨b1, b2, b3⟩ := id h'
    obtain ⟨m, hm, em⟩ := b2 (fo i) (a1 i hi).1 (a1 i hi).2.1
    have him : i ≤ m := by
      rcases Nat.lt_or_ge m i with z | z
      · exfalso
        obtain ⟨-, e⟩ := ih m z (by omega)
        have := a3 m i z hi
        rw [e, em] at this
        exact ltz_irr _ this
      · exact z
    refine ⟨by omega, ?_⟩
    obtain ⟨l, hl, el⟩ := a2 (fo' i) (b1 i (by omega)).1 (b1 i (by omega)).2.1
    have hil : i ≤ l := by
      rcases Nat.lt_or_ge l i with z | z
      · exfalso
        obtain ⟨-, e⟩ := ih l z (by omega)
        have := b3 l i z (by omega)
        rw [← e, el] at this
        exact ltz_irr _ this
      · exact z
    rcases Nat.lt_or_ge i m with z | z
    · exfalso
      have h1 := b3 i m z hm
      rw [em] at h1
      rcases Nat.lt_or_ge i l with y | y
      · have h2 := a3 i l y hl
        rw [el] at h2
        exact ltz_irr _ (ltz_trans h1 h2)
      · have e : l = i := by omega
        rw [e] at el
        rw [el] at h1
        exact ltz_irr _ h1
    · have e : m = i := by omega
      rw [e] at em
      exact em.symm
theorem FSet_uq {S : Type} [Lean.Grind.CommRing S] {co : S → Nat → Int} (P : isPol co) {F : S} {k k' : Nat} {fo fo' : Nat → S} {es es' : Nat → Nat} (h : FSet P F k fo es) (h' : FSet P F k' fo' es') : k = k' ∧ ∀ i, i < k → fo i = fo' i ∧ es i = es' i := by
  have h1 := FSet_le P h h'
  have h2 := FSet_le P h' h
  have hk : k = k' := by
    rcases Nat.lt_trichotomy k k' with z | z | z
    · have := (h2 k z).1; omega
    · exact z
    · have := (h1 k' z).1; omega
  refine ⟨hk, fun i hi => ⟨(h1 i hi).2, ?_⟩⟩
  have e1 := (h.1 i hi).2.2
  have e2 := (h'.1 i (by omega)).2.2
  rw [← (h1 i hi).2] at e2
  exact EX_uq P (h.1 i hi).1 e1 e2
def ko (M M' : MI) : Prop := (∀ k i, k ≠ 41 → ¬ (k = 36 ∧ i = 9) → M'.1 k i = M.1 k i) ∧ (∀ k i, (k < 36 ∨ 47 < k ∨ k = 37) → M'.2 k i = M.2 k i)
theorem ko_refl (M : MI) : ko M M := ⟨fun _ _ _ _ => rfl, fun _ _ _ => rfl⟩
theorem ko_trans {M M' M'' : MI} (h : ko M M') (h1 : ko M' M'') : ko M M'' := ⟨fun k i a b => (h1.1 k i a b).trans (h.1 k i a b), fun k i a => (h1.2 k i a).trans (h.2 k i a)⟩
theorem ko_kp {M M' : MI} (h : kp M M') : ko M M' := ⟨h.1, fun k i a => h.2.1 k i (by omega) (by omega) (by omega)⟩
theorem ko_oI (M : MI) {a : Nat} (ha : a = 36 ∨ a = 38 ∨ a = 39 ∨ a = 40 ∨ a = 43 ∨ a = 45 ∨ a = 46 ∨ a = 47) (i : Nat) (v : Int) : ko M (oI M a i v) := ⟨fun _ _ _ _ => rfl, fun k j h => by rw [oI_2, if_neg (by omega)]⟩
def sm8 (M M' : MI) : Prop := (∀ i, M'.2 38 i = M.2 38 i) ∧ (∀ i, M'.2 39 i = M.2 39 i) ∧ (∀ i, M'.2 40 i = M.2 40 i) ∧ M'.2 36 2 = M.2 36 2 ∧ M'.2 36 4 = M.2 36 4
theorem sm8_refl (M : MI) : sm8 M M := ⟨fun _ => rfl, fun _ => rfl, fun _ => rfl, rfl, rfl⟩
theorem sm8_trans {M M' M'' : MI} (h : sm8 M M') (h1 : sm8 M' M'') : sm8 M M'' := ⟨fun i => (h1.1 i).trans (h.1 i), fun i => (h1.2.1 i).trans (h.2.1 i), fun i => (h1.2.2.1 i).trans (h.2.2.1 i), h1.2.2.2.1.trans h.2.2.2.1, h1.2.2.2.2.trans h.2.2.2.2⟩
theorem sm8_kp {M M' : MI} (h : kp M M') : sm8 M M' := ⟨fun i => h.2.1 38 i (by omega) (by omega) (by omega), fun i => h.2.1 39 i (by omega) (by omega) (by omega), fun i => h.2.1 40 i (by omega) (by omega) (by omega), h.2.2.1, h.2.2.2.1⟩
theorem sm8_fl (M : MI) {i : Nat} (h2 : i ≠ 2) (h4 : i ≠ 4) (v : Int) : sm8 M (oI M 36 i v) := ⟨fun j => by rw [oI_2, if_neg (by omega)], fun j => by rw [oI_2, if_neg (by omega)], fun j => by rw [oI_2, if_neg (by omega)], by rw [oI_2, if_neg (by omega)], by rw [oI_2, if_neg (by omega)]⟩
theorem RZ_fl {S : Type} [Lean.Grind.CommRing S] {co : S → Nat → Int} {M : MI} {s : Nat} {f : S} (h : RZ co M s f) (i : Nat) (v : Int) : RZ co (oI M 36 i v) s f := ⟨by show (oI M 36 i v).2 42 s = _; rw [oI_2, if_neg (by omega)]; exact h.1, h.2⟩
/-- the row's polynomial is small enough to be kept -/
def sml {S : Type} [Lean.Grind.CommRing S] (co : S → Nat → Int) (f : S) : Prop := nu co f ≤ 11 ∧ ∀ i, nz (co f i) ≤ 9999
theorem s_facs {S : Type} [Lean.Grind.CommRing S] {co : S → Nat → Int} (P : isPol co) {M : MI} (hM : ok M) (hpb : ∀ k, k < 20 → M.2 37 k = PB k) {F0 : S} (hF : RZ co M 0 F0) (hNF : nu co F0 ≤ 11) (hN2 : 2 ≤ nu co F0) (hXF : ∀ i, nz (co F0 i) ≤ 9999) {n : Nat} (hn : 18446744073709551616 ≤ n) :
    ∃ (M9 Ma Mb Mc Md : MI) (F : S) (k : Nat) (fo : Nat → S) (es : Nat → Nat), f_X8_primitive n 0 M = some (sc co F0, M9) ∧ f_X8_squareFreePart n M9 = some Ma ∧ f_X8_factorWhole n Ma = some Mb ∧ f_X8_sort n Mb = some Mc ∧ f_X8_countOften n Mc = some Md ∧ ok Md ∧ kp M Md ∧ F0 = mo P (sc co F0) 0 * F ∧ FSet P F k fo es ∧ FR co Md k fo ∧ (∀ i, i < k → Md.2 43 i = (es i : Nat)) ∧ (∀ i, i < k → ∀ j, nz (co (fo i) j) ≤ 979902) ∧ k + 1 ≤ nu co F0 ∧ Md.2 36 3 = M.2 36 3 := by
  obtain ⟨M9, F, e9, hok9, hc9, r9, hF0, hFp, hFl, hFN, hs0⟩ := s_primitiveZ P hM (s := 0) (by omega) hF (by omega) (by omega) (fun i => by have := nz_le.mp (hXF i); omega) hn
  have e9' : f_X8_primitive n 0 M = some (sc co F0, M9) := e9
  have hX : ∀ i, nz (co F i) ≤ 9999 := fun i => by
    have h1 := hXF i
    have h2 : co F0 i = sc co F0 * co F i := (congrArg (fun x => co x i) hF0).trans (mo_0 P _ _ _)
    rw [h2, nz_mul] at h1
    have h3 : 1 * nz (co F i) ≤ nz (sc co F0) * nz (co F i) := Int.mul_le_mul_of_nonneg_right (by unfold nz; omega) (nz_nn _)
    omega
  have hFne := prim_ne P hFp
  obtain ⟨Ma, g, G, ea, hoka, hca, ra, hg, hFG, hNG, hGp, hGl⟩ := s_squareFreePart P hok9 (fun k hk => by rw [hc9.2.1 37 k (by omega)]; exact hpb k hk) r9 (by omega) (by omega) hX hFp hFl hn
  have hsq : ∀ π, irz co π → ¬ dv (π * π) G := fun π h => sqz_no P hFne hg hFG h
  have hG1 := sqz_one P hGp hNG hsq
  have hGF : dv G F := ⟨g, by rw [hFG]; grind⟩
  obtain ⟨Mb, k, f1, eb, hokb, hcb, hFRb, hirzb, hpd, hk10⟩ := s_factorWhole P hoka (fun k hk => by rw [hca.2.1 37 k (by omega) (by simp), hc9.2.1 37 k (by omega)]; exact hpb k hk) (F := F) (by omega) (by omega) hX hGF ra hNG hGp hGl hG1 hn
  have hinj : ∀ i j, i < j → j < k → f1 i ≠ f1 j := fun i j hij hj e => by
    have := pdn_two f1 hij hj
    rw [hpd, ← e] at this
    exact hsq _ (hirzb i (by omega)) this
  obtain ⟨Mc, f2, ec, hokc, hcc, hFRc, hPM, hso⟩ := s_sort P hk10 (fun j hj => (hirzb j hj).2.2.1) hinj hokb hFRb hn
  have hdv1 : ∀ j, j < k → dv (f1 j) G := fun j hj => by
    rw [← hpd]
    clear hPM hinj hFRb hirzb hk10 hFRc hso ec eb hcc hpd
    obtain ⟨d, rfl⟩ : ∃ d, k = j + 1 + d := ⟨k - j - 1, by omega⟩
    clear hj
    induction d with
    | zero => exact dv_r _ _
    | succ d ih => exact dv_trans ih (dv_l _ _)
  have hirz2 : ∀ j, j < k → irz co (f2 j) := fun j hj => by obtain ⟨l, hl, e⟩ := hPM.1 j hj; rw [e]; exact hirzb l hl
  have hdv2 : ∀ j, j < k → dv (f2 j) F := fun j hj => by obtain ⟨l, hl, e⟩ := hPM.1 j hj; rw [e]; exact dv_trans (hdv1 l hl) hGF
  have r0c := RZ_chm (RZ_chm (RZ_chm r9 hca (by simp) (by omega)) hcb (by simp [RSG]) (by omega)) hcc (by simp [RSW]) (by omega)
  obtain ⟨Md, es, ed, hokd, hkpd, hFRd, hes⟩ := s_countOften P (F := F) (by omega) (by omega) hX hk10 hirz2 hdv2 hPM.2.2 hokc r0c hFRc hn
  have hkpc : kp M Mc := kp_trans (kp_chm (F := []) (chm_of hc9) (by simp) (by simp)) (kp_trans (kp_chm hca (by simp) (by simp)) (kp_trans (kp_chm hcb (by simp) (by simp)) (kp_chm hcc (by simp) (by simp))))
  refine ⟨M9, Ma, Mb, Mc, Md, F, k, f2, es, e9', ea, eb, ec, ed, hokd, kp_trans hkpc hkpd, hF0, ⟨fun i hi => ⟨hirz2 i hi, hdv2 i hi, (hes i hi).2⟩, fun π hπ hd => ?_, hso⟩, hFRd, fun i hi => (hes i hi).1, fun i hi j => (z_bd P (by omega) (by omega) hX (hdv2 i hi)).1 j, ?_, ?_⟩
  · have h1 := sqz_all P hFne hg hFG hπ hd
    rw [← hpd] at h1
    have : ∃ l, l < k ∧ dv π (f1 l) := by
      clear hPM hinj hFRb hk10 hFRc hso ec eb hcc hpd hdv1 hirz2 hdv2 hes hFRd ed hirzb
      induction k with
      | zero =>
        exfalso
        have hone : nu co (1 : S) = 1 := nu_eq P (fun i hi => by rw [p_one P, if_neg (by omega)]) (fun _ => by rw [p_one P, if_pos (by omega)]; decide)
        have := z_le P (show dv π (1 : S) from h1) (fun z => by rw [(nu_zero P).mpr z] at hone; omega)
        have := hπ.2.1
        omega
      | succ k ih =>
        rcases irz_dv P hπ (show dv π (pdn f1 k * f1 k) from h1) with z | z
        · obtain ⟨l, hl, e⟩ := ih z
          exact ⟨l, by omega, e⟩
        · exact ⟨k, by omega, z⟩
    obtain ⟨l, hl, e⟩ := this
    obtain ⟨i, hi, e2⟩ := hPM.2.1 l hl
    exact ⟨i, hi, by rw [e2]; exact (irz_eq P hπ (hirzb l hl) e).symm⟩
  · have h1 := (pdn_nuZ P (q := f1) (m := k) (fun j hj => (hirzb j hj).2.1)).1
    rw [hpd] at h1
    have := z_le P hGF hFne
    omega
  · rw [hkpd.2.2.2.2, hkpc.2.2.2.2]
end MRefY
