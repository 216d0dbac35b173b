/-! rational roots: fractions, their order, lists of them -/
section MRset
def rlt (x y : Int × Int) : Prop := x.1 * y.2 < y.1 * x.2
theorem rlt_irr (x : Int × Int) : ¬ rlt x x := by unfold rlt; omega
theorem rlt_trans {x y z : Int × Int} (hx : 0 < x.2) (hy : 0 < y.2) (hz : 0 < z.2) (h1 : rlt x y) (h2 : rlt y z) : rlt x z := by
  unfold rlt at *
  have a1 : x.1 * y.2 * z.2 < y.1 * x.2 * z.2 := Int.mul_lt_mul_of_pos_right h1 hz
  have a2 : y.1 * z.2 * x.2 < z.1 * y.2 * x.2 := Int.mul_lt_mul_of_pos_right h2 hx
  have a3 : y.2 * (x.1 * z.2) < y.2 * (z.1 * x.2) := by
    have e1 : y.2 * (x.1 * z.2) = x.1 * y.2 * z.2 := by grind
    have e2 : y.2 * (z.1 * x.2) = z.1 * y.2 * x.2 := by grind
    have e3 : y.1 * x.2 * z.2 = y.1 * z.2 * x.2 := by grind
    omega
  exact Int.lt_of_mul_lt_mul_left a3 (by omega)
theorem frac_eq {u v u' v' : Int} (hv : 0 < v) (hv' : 0 < v') (h1 : Nat.gcd u.natAbs v.natAbs = 1) (h2 : Nat.gcd u'.natAbs v'.natAbs = 1) (he : u * v' = u' * v) : u = u' ∧ v = v' := by
  have e : u.natAbs * v'.natAbs = u'.natAbs * v.natAbs := by rw [← Int.natAbs_mul, ← Int.natAbs_mul, he]
  have d1 : v.natAbs ∣ v'.natAbs := Nat.Coprime.dvd_of_dvd_mul_left (k := v.natAbs) (m := u.natAbs) (n := v'.natAbs) (by rw [Nat.coprime_comm]; exact h1) ⟨u'.natAbs, by rw [e, Nat.mul_comm]⟩
  have d2 : v'.natAbs ∣ v.natAbs := Nat.Coprime.dvd_of_dvd_mul_left (k := v'.natAbs) (m := u'.natAbs) (n := v.natAbs) (by rw [Nat.coprime_comm]; exact h2) ⟨u.natAbs, by rw [← e, Nat.mul_comm]⟩
  have hvv : v = v' := by
    have := Nat.dvd_antisymm d1 d2
    omega
  subst hvv
  exact ⟨Int.eq_of_mul_eq_mul_right (by omega) he, rfl⟩
theorem rlt_tri {x y : Int × Int} (hx : 0 < x.2) (hy : 0 < y.2) (h1 : Nat.gcd x.1.natAbs x.2.natAbs = 1) (h2 : Nat.gcd y.1.natAbs y.2.natAbs = 1) (hne : x ≠ y) : rlt x y ∨ rlt y x := by
  unfold rlt
  rcases Int.lt_trichotomy (x.1 * y.2) (y.1 * x.2) with z | z | z
  · exact Or.inl z
  · exfalso
    obtain ⟨a, b⟩ := frac_eq hx hy h1 h2 z
    exact hne (Prod.ext a b)
  · exact Or.inr z
noncomputable def lin1 {S : Type} [Lean.Grind.CommRing S] {co : S → Nat → Int} (P : isPol co) (u v : Int) : S := mo P v 1 - mo P u 0
theorem lin1_co {S : Type} [Lean.Grind.CommRing S] {co : S → Nat → Int} (P : isPol co) (u v : Int) (i : Nat) : co (lin1 P u v) i = if i = 1 then v else if i = 0 then -u else 0 := by
  unfold lin1
  rw [p_sub P, mo_co P, mo_co P]
  by_cases z : i = 1
  · rw [if_pos z, if_pos z, if_neg (by omega)]; omega
  · rw [if_neg z, if_neg z]
    split <;> omega
theorem lin1_N {S : Type} [Lean.Grind.CommRing S] {co : S → Nat → Int} (P : isPol co) (u : Int) {v : Int} (hv : v ≠ 0) : nu co (lin1 P u v) = 2 := nu_eq P (fun i hi => by rw [lin1_co P, if_neg (by omega), if_neg (by omega)]) (fun _ => by rw [lin1_co P, if_pos (by omega)]; exact hv)
theorem lin1_irz {S : Type} [Lean.Grind.CommRing S] {co : S → Nat → Int} (P : isPol co) {u v : Int} (hv : 0 < v) (h : Nat.gcd u.natAbs v.natAbs = 1) : irz co (lin1 P u v) := by
  have hN := lin1_N P u (v := v) (by omega)
  refine ⟨fun q hq => ?_, by omega, by rw [hN, lin1_co P, if_pos rfl]; exact hv, fun a b hab => ?_⟩
  · apply Classical.byContradiction
    intro hno
    have hall : ∀ i, (q : Int) ∣ co (lin1 P u v) i := fun i => Classical.byContradiction fun h => hno ⟨i, h⟩
    have h1 := hall 1
    have h0 := hall 0
    rw [lin1_co P, if_pos rfl] at h1
    rw [lin1_co P, if_neg (by omega), if_pos rfl] at h0
    have d1 : q ∣ v.natAbs := Int.ofNat_dvd_left.mp h1
    have d0 : q ∣ u.natAbs := Int.ofNat_dvd_left.mp (Int.dvd_neg.mp h0)
    have := Nat.dvd_gcd d0 d1
    rw [h] at this
    have := Nat.le_of_dvd (by omega) this
    have := hq.1
    omega
  · have hne : lin1 P u v ≠ 0 := fun z => by rw [(nu_zero P).mpr z] at hN; omega
    have ha0 : a ≠ 0 := fun z => hne (by rw [hab, z]; grind)
    have hb0 : b ≠ 0 := fun z => hne (by rw [hab, z]; grind)
    have := nu_mul P int_D ha0 hb0
    rw [← hab] at this
    have : nu co a ≠ 0 := fun q => ha0 ((nu_zero P).mp q)
    have : nu co b ≠ 0 := fun q => hb0 ((nu_zero P).mp q)
    omega
def rt {S : Type} [Lean.Grind.CommRing S] {co : S → Nat → Int} (P : isPol co) (F : S) (x : Int × Int) : Prop := 0 < x.2 ∧ Nat.gcd x.1.natAbs x.2.natAbs = 1 ∧ dv (lin1 P x.1 x.2) F
def RSet {S : Type} [Lean.Grind.CommRing S] {co : S → Nat → Int} (P : isPol co) (F : S) (k : Nat) (s : Nat → Int × Int) : Prop := (∀ i, i < k → rt P F (s i)) ∧ (∀ x, rt P F x → ∃ i, i < k ∧ s i = x) ∧ ∀ a b, a < b → b < k → rlt (s a) (s b)
theorem RSet_le {S : Type} [Lean.Grind.CommRing S] {co : S → Nat → Int} (P : isPol co) {F : S} {k k' : Nat} {s s' : Nat → Int × Int} (h : RSet P F k s) (h' : RSet P F k' s') : ∀ i, i < k → i < k' ∧ s i = s' i := by
  intro i
  induction i using Nat.strongRecOn with
  | ind i ih =>
    intro hi
    obtain ⟨a1, a2, a3⟩ := id h
    obtain ⟨b1, b2, b3⟩ := id h'
    obtain ⟨m, hm, em⟩ := b2 (s i) (a1 i hi)
    have him : i ≤ m := by
      rcases Nat.lt_or_ge m i with z | z
      · exfalso
        obtain ⟨-, e⟩ := ih m z (by omega)
        have := a3 m i z hi
        rw [e, em] at this
        exact rlt_irr _ this
      · exact z
    refine ⟨by omega, ?_⟩
    obtain ⟨l, hl, el⟩ := a2 (s' i) (b1 i (by omega))
    have hil : i ≤ l := by
      rcases Nat.lt_or_ge l i with z | z
      · exfalso
        obtain ⟨-, e⟩ := ih l z (by omega)
        have := b3 l i z (by omega)
        rw [← e, el] at this
        exact rlt_irr _ this
      · exact z
    rcases Nat.lt_or_ge i m with z | z
    · exfalso
      have h1 := b3 i m z hm
      rw [em] at h1
      rcases Nat.lt_or_ge i l with y | y
      · have h2 := a3 i l y hl
        rw [el] at h2
        exact rlt_irr _ (rlt_trans (b1 i (by omega)).1 (a1 i hi).1 (b1 i (by omega)).1 h1 h2)
      · have e : l = i := by omega
        rw [e] at el
        rw [el] at h1
        exact rlt_irr _ h1
    · have e : m = i := by omega
      rw [e] at em
      exact em.symm
theorem RSet_uq {S : Type} [Lean.Grind.CommRing S] {co : S → Nat → Int} (P : isPol co) {F : S} {k k' : Nat} {s s' : Nat → Int × Int} (h : RSet P F k s) (h' : RSet P F k' s') : k = k' ∧ ∀ i, i < k → s i = s' i := by
  have h1 := RSet_le P h h'
  have h2 := RSet_le P h' h
  refine ⟨?_, fun i hi => (h1 i hi).2⟩
  rcases Nat.lt_trichotomy k k' with z | z | z
  · have := (h2 k z).1; omega
  · exact z
  · have := (h1 k' z).1; omega
theorem lin1_inj {S : Type} [Lean.Grind.CommRing S] {co : S → Nat → Int} (P : isPol co) {x y : Int × Int} (h : lin1 P x.1 x.2 = lin1 P y.1 y.2) : x = y := by
  have h1 := congrArg (fun z => co z 1) h
  have h0 := congrArg (fun z => co z 0) h
  rw [lin1_co P, lin1_co P, if_pos rfl, if_pos rfl] at h1
  have e0 : ∀ u v : Int, co (lin1 P u v) 0 = -u := fun u v => by rw [lin1_co P, if_neg (by omega), if_pos rfl]
  rw [e0, e0] at h0
  exact Prod.ext (by omega) h1
theorem irz_prod {S : Type} [Lean.Grind.CommRing S] {co : S → Nat → Int} (P : isPol co) {F : S} {q : Nat → S} : ∀ {k : Nat}, (∀ i, i < k → irz co (q i) ∧ dv (q i) F) → (∀ i j, i < j → j < k → q i ≠ q j) → dv (pdn q k) F
  | 0, _, _ => ⟨F, by simp only [pdn]; grind⟩
  | k + 1, h, hne => by
    obtain ⟨W, hW⟩ := irz_prod P (F := F) (q := q) (k := k) (fun i hi => h i (by omega)) (fun i j a b => hne i j a (by omega))
    obtain ⟨hk, hkd⟩ := h k (by omega)
    rw [hW] at hkd
    have hno : ∀ j, j ≤ k → ¬ dv (q k) (pdn q j) := by
      intro j
      induction j with
      | zero => intro _; exact no_irz1 P (nu_eq P (fun i hi => by show co (1 : S) i = 0; rw [p_one P, if_neg (by omega)]) (fun _ => by show co (1 : S) 0 ≠ 0; rw [p_one P, if_pos rfl]; decide)) hk
      | succ j ih =>
        intro hj hd
        rcases irz_dv P hk (show dv (q k) (pdn q j * q j) from hd) with z | z
        · exact ih (by omega) z
        · exact hne j k (by omega) (by omega) (irz_eq P hk (h j (by omega)).1 z).symm
    rcases irz_dv P hk hkd with z | z
    · exact absurd z (hno k (Nat.le_refl _))
    · obtain ⟨V, hV⟩ := z
      exact ⟨V, by show F = pdn q k * q k * V; rw [hW, hV]; grind⟩
theorem rt_cnt {S : Type} [Lean.Grind.CommRing S] {co : S → Nat → Int} (P : isPol co) {F : S} (hF : F ≠ 0) {k : Nat} {s : Nat → Int × Int} (h : ∀ i, i < k → rt P F (s i)) (hne : ∀ i j, i < j → j < k → s i ≠ s j) : k + 1 ≤ nu co F := by
  have h1 := irz_prod P (F := F) (q := fun i => lin1 P (s i).1 (s i).2) (k := k) (fun i hi => ⟨lin1_irz P (h i hi).1 (h i hi).2.1, (h i hi).2.2⟩) (fun i j a b e => hne i j a b (lin1_inj P e))
  have h2 := (pdn_nuZ P (q := fun i => lin1 P (s i).1 (s i).2) (m := k) (fun j hj => by rw [lin1_N P _ (by have := (h j hj).1; omega)]; omega)).1
  have h3 := z_le P h1 hF
  omega
theorem rt_head {S : Type} [Lean.Grind.CommRing S] {co : S → Nat → Int} (P : isPol co) {F : S} (hF : F ≠ 0) {x : Int × Int} (h : rt P F x) : x.2 ∣ co F (nu co F - 1) := by
  obtain ⟨h1, h2, w, hw⟩ := h
  have hN := lin1_N P x.1 (v := x.2) (by omega)
  have hw0 : w ≠ 0 := fun z => hF (by rw [hw, z]; grind)
  have hl0 : lin1 P x.1 x.2 ≠ 0 := fun z => by rw [(nu_zero P).mpr z] at hN; omega
  have := lc_dv P hl0 hw0
  rw [← hw, hN, show 2 - 1 = 1 from rfl, lin1_co P, if_pos rfl] at this
  rw [this]
  exact ⟨_, rfl⟩
theorem rt_tail {S : Type} [Lean.Grind.CommRing S] {co : S → Nat → Int} (P : isPol co) {F : S} (hF : F ≠ 0) {low : Nat} (hlow : ∀ i, i < low → co F i = 0) (hlow2 : co F low ≠ 0) {x : Int × Int} (h : rt P F x) (hx : x.1 ≠ 0) : x.1 ∣ co F low := by
  obtain ⟨h1, h2, w, hw⟩ := h
  have hw0 : w ≠ 0 := fun z => hF (by rw [hw, z]; grind)
  obtain ⟨j, hj, hj2⟩ := least (p := fun i => co w i ≠ 0) (Classical.byContradiction fun hno => hw0 (p_ext P (fun i => by rw [p_zero P]; exact Classical.byContradiction fun h => hno ⟨i, h⟩)))
  obtain ⟨m1, m2⟩ := mul_low P (a := lin1 P x.1 x.2) (b := w) (j := 0) (k := j) (fun i hi => absurd hi (by omega)) (fun i hi => Classical.byContradiction fun h => hj2 i hi h)
  rw [← hw, Nat.zero_add] at m1 m2
  rw [lin1_co P, if_neg (by omega), if_pos rfl] at m1
  have hjl : j = low := by
    rcases Nat.lt_trichotomy j low with z | z | z
    · exfalso
      have := hlow j z
      rw [m1] at this
      rcases Int.mul_eq_zero.mp this with y | y
      · omega
      · exact hj y
    · exact z
    · exact absurd (m2 low z) hlow2
  rw [← hjl, m1]
  exact ⟨-co w j, by rw [Int.neg_mul, Int.mul_neg]⟩
theorem rt_zero {S : Type} [Lean.Grind.CommRing S] {co : S → Nat → Int} (P : isPol co) {F : S} {x : Int × Int} (h : rt P F x) (hx : x.1 = 0) : x = (0, 1) ∧ co F 0 = 0 := by
  obtain ⟨h1, h2, w, hw⟩ := h
  rw [hx, Int.natAbs_zero, Nat.gcd_zero_left] at h2
  refine ⟨Prod.ext hx (by dsimp only; omega), ?_⟩
  rw [hw, p_mul P]
  simp only [sm]
  rw [lin1_co P, if_neg (by omega), if_pos rfl, hx]
  omega
theorem rt_zero2 {S : Type} [Lean.Grind.CommRing S] {co : S → Nat → Int} (P : isPol co) {F : S} (h0 : co F 0 = 0) : rt P F (0, 1) := by
  refine ⟨by decide, by decide, ?_⟩
  obtain ⟨w, hw⟩ := P.2.2.2.2.1 (fun i => co F (i + 1)) (nu co F) (fun i hi => nu_hi P F (by omega))
  refine ⟨w, p_ext P (fun i => ?_)⟩
  have e : lin1 P (0 : Int) 1 = mo P 1 1 := p_ext P (fun j => by
    rw [lin1_co P, mo_co P]
    split
    · rfl
    · split <;> rfl)
  dsimp only
  rw [e, mo_mul P]
  by_cases z : 1 ≤ i
  · rw [if_pos z, hw, show i - 1 + 1 = i by omega]; omega
  · rw [if_neg z, show i = 0 by omega, h0]
end MRset
