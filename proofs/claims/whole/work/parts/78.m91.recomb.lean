/-! factors of a whole row, out of factors by a prime -/
section MRecomb
def pdn {S : Type} [Lean.Grind.CommRing S] (F : Nat → S) : Nat → S
  | 0 => 1
  | n + 1 => pdn F n * F n
def pm {S : Type} [Lean.Grind.CommRing S] (q : Nat → S) (a : Nat → Bool) (m : Nat) : S := pdn (fun i => if a i then q i else 1) m
theorem pm_succ {S : Type} [Lean.Grind.CommRing S] (q : Nat → S) (a : Nat → Bool) (m : Nat) : pm q a (m + 1) = pm q a m * (if a m then q m else 1) := rfl
theorem pm_congr {S : Type} [Lean.Grind.CommRing S] {q r : Nat → S} {a b : Nat → Bool} : ∀ {m : Nat}, (∀ i, i < m → a i = b i) → (∀ i, i < m → a i = true → q i = r i) → pm q a m = pm r b m
  | 0, _, _ => rfl
  | m + 1, h, h1 => by
    rw [pm_succ, pm_succ, pm_congr (fun i hi => h i (by omega)) (fun i hi => h1 i (by omega)), ← h m (by omega)]
    cases ha : a m
    · rfl
    · simp only [if_true]; rw [h1 m (by omega) ha]
theorem pm_not {S : Type} [Lean.Grind.CommRing S] (q : Nat → S) (a : Nat → Bool) : ∀ (m : Nat), pm q a m * pm q (fun i => !a i) m = pdn q m
  | 0 => by show (1 : S) * 1 = 1; grind
  | m + 1 => by
    rw [pm_succ, pm_succ, pdn, ← pm_not q a m]
    cases a m
    · simp; grind
    · simp; grind
theorem pm_split {S : Type} [Lean.Grind.CommRing S] (q : Nat → S) (a b : Nat → Bool) : ∀ (m : Nat), (∀ i, i < m → b i = true → a i = true) → pm q a m = pm q b m * pm q (fun i => a i && !b i) m
  | 0, _ => by show (1 : S) = 1 * 1; grind
  | m + 1, h => by
    rw [pm_succ, pm_succ, pm_succ, pm_split q a b m (fun i hi => h i (by omega))]
    have := h m (by omega)
    cases hb : b m <;> cases ha : a m <;> simp_all <;> grind
theorem pm_cop {S : Type} [Lean.Grind.CommRing S] {q : Nat → S} {x : S} {a : Nat → Bool} : ∀ {m : Nat}, (∀ i, i < m → a i = true → cop x (q i)) → cop x (pm q a m)
  | 0, _ => ⟨0, 1, by show 0 * x + 1 * 1 = (1 : S); grind⟩
  | m + 1, h => by
    rw [pm_succ]
    refine cop_mul (pm_cop (fun i hi => h i (by omega))) ?_
    cases ha : a m
    · exact ⟨0, 1, by simp; grind⟩
    · simp only [if_true]; exact h m (by omega) ha
theorem pm_dv {S : Type} [Lean.Grind.CommRing S] {q : Nat → S} {h : S} {a : Nat → Bool} : ∀ {m : Nat}, (∀ i j, i < m → j < m → i ≠ j → cop (q i) (q j)) → (∀ i, i < m → a i = true → dv (q i) h) → dv (pm q a m) h
  | 0, _, _ => ⟨h, by show h = 1 * h; grind⟩
  | m + 1, hc, hd => by
    rw [pm_succ]
    have h1 := pm_dv (fun i j hi hj => hc i j (by omega) (by omega)) (fun i hi => hd i (by omega)) (m := m)
    cases ha : a m
    · simp only [Bool.false_eq_true, if_false]
      rw [show ∀ x : S, x * 1 = x from fun x => by grind]; exact h1
    · simp only [if_true]
      exact cop_dv2 (cop_symm (pm_cop (fun i hi _ => hc m i (by omega) (by omega) (by omega)))) h1 (hd m (by omega) ha)
theorem pm_mem {S : Type} [Lean.Grind.CommRing S] {q : Nat → S} {a : Nat → Bool} {j : Nat} (ha : a j = true) : ∀ {m : Nat}, j < m → dv (q j) (pm q a m)
  | 0, h => absurd h (by omega)
  | m + 1, h => by
    rw [pm_succ]
    rcases Nat.lt_or_ge j m with z | z
    · exact dv_mulr _ (pm_mem ha z)
    · rw [show m = j by omega, ha]; simp only [if_true]; exact dv_r _ _
theorem pdn_ne {S : Type} [Lean.Grind.CommRing S] {N : S → Nat} (E : EU S N) (h0 : (1 : S) ≠ 0) {F : Nat → S} : ∀ {m : Nat}, (∀ i, i < m → F i ≠ 0) → pdn F m ≠ 0
  | 0, _ => h0
  | m + 1, h => fun z => by
    rcases eu_dom E z with z | z
    · exact pdn_ne E h0 (fun i hi => h i (by omega)) z
    · exact h m (by omega) z
theorem pm_only {S : Type} [Lean.Grind.CommRing S] {N : S → Nat} (E : EU S N) {q : Nat → S} {a : Nat → Bool} {m j : Nat} (hi : ∀ i, i < m → irr N (q i)) (hc : ∀ i j, i < m → j < m → i ≠ j → cop (q i) (q j)) (hj : j < m) (h : dv (q j) (pm q a m)) : a j = true := by
  cases ha : a j
  · exfalso
    have : cop (q j) (pm q a m) := pm_cop (fun i him hai => hc j i hj him (fun z => by rw [← z, ha] at hai; exact Bool.noConfusion hai))
    exact cop_not E (hi j hj) this (dv_refl _) h
  · rfl
/-- a divisor of a product of different irreducible rows -/
theorem fac_mask {S : Type} [Lean.Grind.CommRing S] {N : S → Nat} (E : EU S N) {q : Nat → S} {m : Nat} (hi : ∀ i, i < m → irr N (q i)) (hc : ∀ i j, i < m → j < m → i ≠ j → cop (q i) (q j)) (h0 : (1 : S) ≠ 0) {h k : S} (hk : h * k = pdn q m) : ∃ (a : Nat → Bool) (u : S), N u = 1 ∧ h = pm q a m * u ∧ ∀ i, i < m → (a i = true ↔ dv (q i) h) := by
  obtain ⟨a, ha⟩ : ∃ a : Nat → Bool, ∀ i, a i = true ↔ dv (q i) h := ⟨fun i => @decide (dv (q i) h) (Classical.propDecidable _), fun i => ⟨fun z => @of_decide_eq_true _ (Classical.propDecidable _) z, fun z => @decide_eq_true _ (Classical.propDecidable _) z⟩⟩
  obtain ⟨u, hu⟩ := pm_dv (q := q) (a := a) (h := h) (m := m) hc (fun i _ z => (ha i).mp z)
  obtain ⟨v, hv⟩ := pm_dv (q := q) (a := fun i => !a i) (h := k) (m := m) hc (fun i him z => by
    have h1 : dv (q i) (h * k) := by
      rw [hk]
      have := pm_mem (q := q) (a := fun _ => true) (j := i) rfl him
      have e : pm q (fun _ => true) m = pdn q m := rfl
      rw [e] at this; exact this
    rcases irr_dv E (hi i him) h1 with z1 | z1
    · have := (ha i).mpr z1
      simp [this] at z
    · exact z1)
  have hne : pdn q m ≠ 0 := pdn_ne E h0 (fun i him => irr_ne E (hi i him))
  have huv : u * v = 1 := by
    refine eu_cancel E hne ?_
    conv => rhs; rw [← hk, hu, hv]
    rw [← pm_not q a m]; grind
  exact ⟨a, u, eu_isu E huv h0, hu, fun i _ => ha i⟩
theorem c_unit {R T : Type} [Lean.Grind.CommRing R] [Lean.Grind.CommRing T] {ct : T → Nat → R} (K : isPol ct) (hF : isF R) {u : T} (hu : nu ct u = 1) : ∃ c, c ≠ 0 ∧ u = mo K c 0 := by
  refine ⟨ct u 0, ?_, p_ext K (fun i => ?_)⟩
  · have := nu_top K u (by omega)
    rw [hu] at this; exact this
  · rw [mo_co K]
    by_cases z : i = 0
    · rw [if_pos z, z]
    · rw [if_neg z, nu_hi K u (by omega)]
/-- g: a whole divisor with the pieces a -/
def fac {S T R : Type} [Lean.Grind.CommRing S] [Lean.Grind.CommRing T] [Lean.Grind.CommRing R] {co : S → Nat → Int} (P : isPol co) {ct : T → Nat → R} (K : isPol ct) {p : Nat} (hp : isZp R p) {φ : Int → R} (hφ : isRed φ p) (q : Nat → T) (m : Nat) (rest : S) (a : Nat → Bool) (g : S) : Prop := prim co g ∧ 0 < co g (nu co g - 1) ∧ dv g rest ∧ ∃ c, c ≠ 0 ∧ rd P K hp hφ g = mo K c 0 * pm q a m
theorem lc_dv {S : Type} [Lean.Grind.CommRing S] {co : S → Nat → Int} (P : isPol co) {g h : S} (hg : g ≠ 0) (hh : h ≠ 0) : co (g * h) (nu co (g * h) - 1) = co g (nu co g - 1) * co h (nu co h - 1) := by
  have h1 := nu_mul P int_D hg hh
  have h2 : nu co g ≠ 0 := fun q => hg ((nu_zero P).mp q)
  have h3 : nu co h ≠ 0 := fun q => hh ((nu_zero P).mp q)
  rw [show nu co (g * h) - 1 = (nu co g - 1) + (nu co h - 1) by omega]
  exact mul_top P (fun i hi => nu_hi P g (by omega)) (fun i hi => nu_hi P h (by omega))
theorem rd_prod {S T R : Type} [Lean.Grind.CommRing S] [Lean.Grind.CommRing T] [Lean.Grind.CommRing R] {co : S → Nat → Int} (P : isPol co) {ct : T → Nat → R} (K : isPol ct) {p : Nat} (hp : isZp R p) {φ : Int → R} (hφ : isRed φ p) {q : Nat → T} {m : Nat} (hi : ∀ i, i < m → irr (nu ct) (q i)) (hc : ∀ i j, i < m → j < m → i ≠ j → cop (q i) (q j)) {rest : S} {U : Nat → Bool} {c : R} (hc0 : c ≠ 0) (hr : rd P K hp hφ rest = mo K c 0 * pm q U m) {g : S} (hg : prim co g) (hg1 : 0 < co g (nu co g - 1)) (hd : dv g rest) : ∃ a, fac P K hp hφ q m rest a g ∧ (∀ i, i < m → a i = true → U i = true) := by
  have hF := hp.2.2.1
  have E := pol_EU K hF
  have h0 : (1 : T) ≠ 0 := fun z => by have := (nu_zero K).mpr z; rw [← mo_one K, mo_N K 0 hF.1] at this; omega
  obtain ⟨d, hd1⟩ := hF.2 c hc0
  obtain ⟨k, hk⟩ := hd
  have h1 : rd P K hp hφ g * (rd P K hp hφ k * mo K d 0 * pm q (fun i => !U i) m) = pdn q m := by
    have e : rd P K hp hφ g * rd P K hp hφ k = mo K c 0 * pm q U m := by rw [← rd_mul, ← hk, hr]
    have e2 : mo K c 0 * mo K d 0 = (1 : T) := by rw [mo_mm, hd1, mo_one]
    rw [← pm_not q U m]
    have e3 : rd P K hp hφ g * (rd P K hp hφ k * mo K d 0 * pm q (fun i => !U i) m) = rd P K hp hφ g * rd P K hp hφ k * mo K d 0 * pm q (fun i => !U i) m := by grind
    rw [e3, e]; grind
  obtain ⟨a, u, hu, h2, h3⟩ := fac_mask E hi hc h0 h1
  obtain ⟨c', hc', hu'⟩ := c_unit K hF hu
  refine ⟨a, ⟨hg, hg1, ⟨k, hk⟩, c', hc', by rw [h2, hu']; grind⟩, fun i him hai => ?_⟩
  have h4 : dv (q i) (pm q U m) := by
    have h5 : dv (q i) (mo K c 0 * pm q U m) := by
      rw [← hr, hk, rd_mul]; exact dv_mulr _ ((h3 i him).mp hai)
    rcases irr_dv E (hi i him) h5 with z | z
    · exact absurd z (unit_no K hF (hi i him) hc0)
    · exact z
  exact pm_only E hi hc him h4
theorem pm_sq {S : Type} [Lean.Grind.CommRing S] {N : S → Nat} (E : EU S N) {q : Nat → S} {a : Nat → Bool} {m j : Nat} (hi : ∀ i, i < m → irr N (q i)) (hc : ∀ i j, i < m → j < m → i ≠ j → cop (q i) (q j)) (hj : j < m) : ¬ dv (q j * q j) (pm q a m) := by
  intro h
  have ha : a j = true := pm_only E hi hc hj (dv_trans ⟨q j, rfl⟩ h)
  have h1 := pm_split q a (fun i => decide (i = j)) m (fun i _ z => by rw [of_decide_eq_true z]; exact ha)
  have h2 : pm q (fun i => decide (i = j)) m = q j := by
    have key : ∀ n, n ≤ m → pm q (fun i => decide (i = j)) n = if j < n then q j else 1 := by
      intro n
      induction n with
      | zero => intro _; rw [if_neg (by omega)]; rfl
      | succ n ih =>
        intro hn
        rw [pm_succ, ih (by omega)]
        by_cases z : n = j
        · subst z; simp <;> grind
        · simp only [z, decide_false, Bool.false_eq_true, if_false]
          by_cases z2 : j < n
          · rw [if_pos z2, if_pos (by omega)]; grind
          · rw [if_neg z2, if_neg (by omega)]; grind
    rw [key m (Nat.le_refl _), if_pos hj]
  rw [h1, h2] at h
  obtain ⟨c, hc1⟩ := h
  have h3 : dv (q j) (pm q (fun i => a i && !decide (i = j)) m) := ⟨c, eu_cancel E (irr_ne E (hi j hj)) (by rw [hc1]; grind)⟩
  have h4 := pm_only E hi hc hj h3
  simp at h4
def pc (a : Nat → Bool) : Nat → Nat
  | 0 => 0
  | m + 1 => pc a m + (if a m then 1 else 0)
theorem pc_zero {a : Nat → Bool} : ∀ {m : Nat}, pc a m = 0 → ∀ i, i < m → a i = false
  | 0, _, i, hi => absurd hi (by omega)
  | m + 1, h, i, hi => by
    simp only [pc] at h
    rcases Nat.lt_or_ge i m with z | z
    · exact pc_zero (by omega) i z
    · rw [show i = m by omega]
      cases ha : a m
      · rfl
      · rw [ha] at h; simp at h
theorem pc_add {a b c : Nat → Bool} : ∀ {m : Nat}, (∀ i, i < m → (a i = true ↔ b i = true ∨ c i = true) ∧ ¬ (b i = true ∧ c i = true)) → pc a m = pc b m + pc c m
  | 0, _ => rfl
  | m + 1, h => by
    simp only [pc]
    rw [pc_add (fun i hi => h i (by omega))]
    have := h m (by omega)
    cases ha : a m <;> cases hb : b m <;> cases hc : c m <;> simp_all <;> omega
theorem pm_none {S : Type} [Lean.Grind.CommRing S] {q : Nat → S} {a : Nat → Bool} : ∀ {m : Nat}, (∀ i, i < m → a i = false) → pm q a m = 1
  | 0, _ => rfl
  | m + 1, h => by rw [pm_succ, pm_none (fun i hi => h i (by omega)), h m (by omega)]; simp; grind
theorem z_sgn {S : Type} [Lean.Grind.CommRing S] {co : S → Nat → Int} (P : isPol co) {x : S} (hx : x ≠ 0) : ∃ e : S, (e = 1 ∨ e = -1) ∧ 0 < co (e * x) (nu co (e * x) - 1) ∧ nu co (e * x) = nu co x := by
  have h0 : nu co x ≠ 0 := fun z => hx ((nu_zero P).mp z)
  have h1 := nu_top P x h0
  rcases Int.lt_or_le 0 (co x (nu co x - 1)) with z | z
  · exact ⟨1, Or.inl rfl, by rw [show (1 : S) * x = x by grind]; exact z, by rw [show (1 : S) * x = x by grind]⟩
  · have hn : nu co (-1 * x) = nu co x := nu_eq P (fun i hi => by rw [show (-1 : S) * x = -x by grind, p_neg P, nu_hi P x hi]; grind) (fun _ => by rw [show (-1 : S) * x = -x by grind, p_neg P]; omega)
    refine ⟨-1, Or.inr rfl, ?_, hn⟩
    rw [hn, show (-1 : S) * x = -x by grind, p_neg P]; omega
/-- a divisor that falls apart has two sets of pieces -/
theorem fac_two {S T R : Type} [Lean.Grind.CommRing S] [Lean.Grind.CommRing T] [Lean.Grind.CommRing R] {co : S → Nat → Int} (P : isPol co) {ct : T → Nat → R} (K : isPol ct) {p : Nat} (hp : isZp R p) {φ : Int → R} (hφ : isRed φ p) {q : Nat → T} {m : Nat} (hi : ∀ i, i < m → irr (nu ct) (q i)) (hc : ∀ i j, i < m → j < m → i ≠ j → cop (q i) (q j)) {rest : S} (hr0 : rest ≠ 0) (hl : ¬ (p : Int) ∣ co rest (nu co rest - 1)) {a : Nat → Bool} {g : S} (hg : fac P K hp hφ q m rest a g) {x y : S} (hxy : g = x * y) (hx : nu co x ≠ 1) (hy : nu co y ≠ 1) : ∃ b b' x' y', fac P K hp hφ q m rest b x' ∧ fac P K hp hφ q m rest b' y' ∧ 1 ≤ pc b m ∧ 1 ≤ pc b' m ∧ (∀ i, i < m → b i = true → a i = true) ∧ (∀ i, i < m → b' i = true → a i = true) ∧ pc a m = pc b m + pc b' m := by
  have hF := hp.2.2.1
  have E := pol_EU K hF
  obtain ⟨hg1, hg2, hg3, cg, hcg, hg4⟩ := hg
  have hg0 := prim_ne P hg1
  have hx0 : x ≠ 0 := by intro z; apply hg0; rw [hxy, z]; grind
  have hy0 : y ≠ 0 := by intro z; apply hg0; rw [hxy, z]; grind
  obtain ⟨ex, hex, hex1, hex2⟩ := z_sgn P hx0
  obtain ⟨ey, hey, hey1, hey2⟩ := z_sgn P hy0
  have exx : ex * ex = 1 := by rcases hex with z | z <;> rw [z] <;> grind
  have eyy : ey * ey = 1 := by rcases hey with z | z <;> rw [z] <;> grind
  have dx : dv (ex * x) g := ⟨ex * y, by rw [hxy]; grind⟩
  have dy : dv (ey * y) g := ⟨ey * x, by rw [hxy]; grind⟩
  have rdg : rd P K hp hφ g = mo K cg 0 * pm q a m := hg4
  obtain ⟨b, hb1, hb2⟩ := rd_prod P K hp hφ hi hc hcg rdg (prim_dv P hg1 dx) hex1 dx
  obtain ⟨b', hb1', hb2'⟩ := rd_prod P K hp hφ hi hc hcg rdg (prim_dv P hg1 dy) hey1 dy
  obtain ⟨x1, x2, _, cx, hcx, x4⟩ := hb1
  obtain ⟨y1, y2, _, cy, hcy, y4⟩ := hb1'
  -- heads aren't multiples of p
  have hlc : ∀ z : S, dv z rest → ¬ (p : Int) ∣ co z (nu co z - 1) := by
    intro z hz hpz
    obtain ⟨w, hw⟩ := hz
    have hz0 : z ≠ 0 := by intro q; apply hr0; rw [hw, q]; grind
    have hw0 : w ≠ 0 := by intro q; apply hr0; rw [hw, q]; grind
    apply hl
    rw [hw, lc_dv P hz0 hw0]
    obtain ⟨t, ht⟩ := hpz
    exact ⟨t * co w (nu co w - 1), by rw [ht]; grind⟩
  have dxr := dv_trans dx hg3
  have dyr := dv_trans dy hg3
  have nb : 1 ≤ pc b m := by
    rcases Nat.eq_zero_or_pos (pc b m) with z | z
    · exfalso
      rw [pm_none (pc_zero z)] at x4
      have := rd_N P K hp hφ (hlc _ dxr)
      rw [x4, show mo K cx 0 * 1 = (mo K cx 0 : T) by grind, mo_N K 0 hcx] at this
      omega
    · exact z
  have nb' : 1 ≤ pc b' m := by
    rcases Nat.eq_zero_or_pos (pc b' m) with z | z
    · exfalso
      rw [pm_none (pc_zero z)] at y4
      have := rd_N P K hp hφ (hlc _ dyr)
      rw [y4, show mo K cy 0 * 1 = (mo K cy 0 : T) by grind, mo_N K 0 hcy] at this
      omega
    · exact z
  refine ⟨b, b', ex * x, ey * y, ⟨x1, x2, dxr, cx, hcx, x4⟩, ⟨y1, y2, dyr, cy, hcy, y4⟩, nb, nb', hb2, hb2', ?_⟩
  -- the product of both
  have hprod : mo K cg 0 * pm q a m = rd P K hp hφ (ex * ey) * (mo K cx 0 * pm q b m) * (mo K cy 0 * pm q b' m) := by
    rw [← rdg, ← x4, ← y4, ← rd_mul, ← rd_mul]
    congr 1
    rw [hxy]
    have : ex * ey * (ex * x) * (ey * y) = (ex * ex) * (ey * ey) * (x * y) := by grind
    rw [this, exx, eyy]; grind
  refine pc_add (fun i him => ⟨⟨fun ha => ?_, fun z => ?_⟩, fun z => ?_⟩)
  · have h1 : dv (q i) (mo K cg 0 * pm q a m) := dv_mull _ (pm_mem ha him)
    rw [hprod] at h1
    rcases irr_dv E (hi i him) h1 with z | z
    · rcases irr_dv E (hi i him) z with z | z
      · exfalso
        have : dv (q i) (1 : T) := by
          have e : rd P K hp hφ (ex * ey) * rd P K hp hφ (ex * ey) = 1 := by
            rw [← rd_mul, show ex * ey * (ex * ey) = (ex * ex) * (ey * ey) by grind, exx, eyy, show (1 : S) * 1 = 1 by grind, rd_one]
          rw [← e]; exact dv_mulr _ z
        rw [← mo_one K] at this
        exact unit_no K hF (hi i him) hF.1 this
      · rcases irr_dv E (hi i him) z with z | z
        · exact absurd z (unit_no K hF (hi i him) hcx)
        · exact Or.inl (pm_only E hi hc him z)
    · rcases irr_dv E (hi i him) z with z | z
      · exact absurd z (unit_no K hF (hi i him) hcy)
      · exact Or.inr (pm_only E hi hc him z)
  · rcases z with z | z
    · exact hb2 i him z
    · exact hb2' i him z
  · obtain ⟨u1, hu1⟩ := pm_mem (q := q) z.1 him
    obtain ⟨u2, hu2⟩ := pm_mem (q := q) z.2 him
    refine pm_sq E hi hc him (a := a) ?_
    obtain ⟨d, hd⟩ := hF.2 cg hcg
    have e2 : mo K d 0 * mo K cg 0 = (1 : T) := by rw [mo_mm, show d * cg = cg * d by grind, hd, mo_one]
    exact ⟨mo K d 0 * (rd P K hp hφ (ex * ey) * mo K cx 0 * mo K cy 0) * (u1 * u2), by
      have : pm q a m = mo K d 0 * (mo K cg 0 * pm q a m) := by grind
      rw [this, hprod, hu1, hu2]; grind⟩
theorem fac_irr {S T R : Type} [Lean.Grind.CommRing S] [Lean.Grind.CommRing T] [Lean.Grind.CommRing R] {co : S → Nat → Int} (P : isPol co) {ct : T → Nat → R} (K : isPol ct) {p : Nat} (hp : isZp R p) {φ : Int → R} (hφ : isRed φ p) {q : Nat → T} {m : Nat} (hi : ∀ i, i < m → irr (nu ct) (q i)) (hc : ∀ i j, i < m → j < m → i ≠ j → cop (q i) (q j)) {rest : S} (hr0 : rest ≠ 0) (hl : ¬ (p : Int) ∣ co rest (nu co rest - 1)) {a : Nat → Bool} {g : S} (hg : fac P K hp hφ q m rest a g) (hN : 2 ≤ nu co g) (hno : ∀ b x', fac P K hp hφ q m rest b x' → (∀ i, i < m → b i = true → a i = true) → 1 ≤ pc b m → 2 * pc b m ≤ pc a m → False) : irz co g := by
  refine ⟨hg.1, hN, hg.2.1, fun x y hxy => ?_⟩
  apply Classical.byContradiction
  intro hn
  obtain ⟨b, b', x', y', f1, f2, n1, n2, s1, s2, hs⟩ := fac_two P K hp hφ hi hc hr0 hl hg hxy (fun z => hn (Or.inl z)) (fun z => hn (Or.inr z))
  rcases Nat.le_total (pc b m) (pc b' m) with z | z
  · exact hno b x' f1 s1 n1 (by omega)
  · exact hno b' y' f2 s2 n2 (by omega)
/-- small rows with the same remainders are the same -/
theorem lift_u {S T R : Type} [Lean.Grind.CommRing S] [Lean.Grind.CommRing T] [Lean.Grind.CommRing R] {co : S → Nat → Int} (P : isPol co) {ct : T → Nat → R} (K : isPol ct) {p : Nat} (hp : isZp R p) {φ : Int → R} (hφ : isRed φ p) {f g : S} (hf : ∀ i, 2 * nz (co f i) < p) (hg : ∀ i, 2 * nz (co g i) < p) (h : rd P K hp hφ f = rd P K hp hφ g) : f = g := by
  refine p_ext P (fun i => ?_)
  have h1 : φ (co f i) = φ (co g i) := by rw [← rd_co P K hp hφ, h, rd_co P K hp hφ]
  obtain ⟨c, hc⟩ := (red_eq hφ).mp h1
  have h2 := hf i
  have h3 := hg i
  unfold nz at h2 h3
  have hp2 := hp.1.1
  have hcz : c = 0 := by
    apply Classical.byContradiction
    intro hne
    have : (p : Int) ≤ ((p : Int) * c).natAbs := by
      rw [Int.natAbs_mul]
      have h4 : (p : Int).natAbs * 1 ≤ (p : Int).natAbs * c.natAbs := Nat.mul_le_mul_left _ (by omega)
      omega
    omega
  rw [hcz] at hc
  omega
theorem prim_uq {S : Type} [Lean.Grind.CommRing S] {co : S → Nat → Int} (P : isPol co) {g h : S} {x y : Int} (hx : 0 < x) (hy : 0 < y) (hg : prim co g) (hh : prim co h) (hg1 : 0 < co g (nu co g - 1)) (hh1 : 0 < co h (nu co h - 1)) (he : mo P x 0 * g = mo P y 0 * h) : g = h := by
  have d1 : dv g h := gauss_i P hg (c := y) (by omega) (h := mo P x 0) (by rw [← he]; grind)
  obtain ⟨c, hc⟩ := d1
  have hN : nu co g = nu co h := by rw [← z_N P (show x ≠ 0 by omega), he, z_N P (show y ≠ 0 by omega)]
  have hc0 : c ≠ 0 := by intro z; apply prim_ne P hh; rw [hc, z]; grind
  have h1 := nu_mul P int_D (prim_ne P hg) hc0
  rw [← hc] at h1
  have hcp : prim co c := prim_dv P hh ⟨g, by rw [hc]; grind⟩
  rcases prim_c P hcp (by omega) with z | z
  · rw [hc, z]; grind
  · exfalso
    rw [hc, z, show g * -1 = -g by grind] at hh1
    have hn : nu co (-g) = nu co g := nu_eq P (fun i hi => by rw [p_neg P, nu_hi P g hi]; grind) (fun _ => by rw [p_neg P]; omega)
    rw [hn, p_neg P] at hh1
    omega
/-- the candidate is the divisor, where there is one -/
theorem fac_lift {S T R : Type} [Lean.Grind.CommRing S] [Lean.Grind.CommRing T] [Lean.Grind.CommRing R] {co : S → Nat → Int} (P : isPol co) {ct : T → Nat → R} (K : isPol ct) {p : Nat} (hp : isZp R p) {φ : Int → R} (hφ : isRed φ p) {q : Nat → T} {m : Nat} {rest : S} (hr0 : rest ≠ 0) (hl : ¬ (p : Int) ∣ co rest (nu co rest - 1)) (hlp : 0 < co rest (nu co rest - 1)) {a : Nat → Bool} (hmon : ct (pm q a m) (nu ct (pm q a m) - 1) = 1) {g : S} (hg : fac P K hp hφ q m rest a g) {B : Int} (hB : ∀ (h : S) (i : Nat), rest = g * h → nz (co g i * co h (nu co h - 1)) ≤ B) (hBp : 2 * B < p) {l : S} (hl1 : ∀ i, 2 * nz (co l i) < p) (hl2 : rd P K hp hφ l = mo K (φ (co rest (nu co rest - 1))) 0 * pm q a m) {C : S} {e : Int} (he : 0 < e) (hC : prim co C) (hC1 : 0 < co C (nu co C - 1)) (hlC : l = mo P e 0 * C) : C = g := by
  obtain ⟨g1, g2, ⟨h, hh⟩, c, hc, g4⟩ := hg
  have hF := hp.2.2.1
  have hg0 := prim_ne P g1
  have hh0 : h ≠ 0 := by intro z; apply hr0; rw [hh, z]; grind
  have hlc : co rest (nu co rest - 1) = co g (nu co g - 1) * co h (nu co h - 1) := by rw [hh]; exact lc_dv P hg0 hh0
  have hhp : 0 < co h (nu co h - 1) := by
    apply Classical.byContradiction
    intro z
    have h9 := Int.mul_nonneg (Int.le_of_lt g2) (show 0 ≤ -(co h (nu co h - 1)) by omega)
    rw [Int.mul_neg] at h9
    rw [hlc] at hlp
    omega
  have hgn : ¬ (p : Int) ∣ co g (nu co g - 1) := by
    rintro ⟨t, ht⟩
    exact hl (by rw [hlc, ht]; exact ⟨t * co h (nu co h - 1), by grind⟩)
  have hcg : c = φ (co g (nu co g - 1)) := by
    have h1 := rd_N P K hp hφ hgn
    have h2 : nu ct (mo K c 0 * pm q a m) = nu ct (pm q a m) := by
      have hpm0 : pm q a m ≠ 0 := fun z => by
        rw [g4, z, show mo K c 0 * 0 = (0 : T) by grind, (nu_zero K).mpr rfl] at h1
        exact hg0 ((nu_zero P).mp h1.symm)
      have := nu_mul K (isF_D hF) (a := mo K c 0) (b := pm q a m) (fun z => by have := (nu_zero K).mpr z; rw [mo_N K 0 hc] at this; omega) hpm0
      rw [mo_N K 0 hc] at this
      omega
    have h3 : ct (rd P K hp hφ g) (nu co g - 1) = c := by
      rw [g4, mo_0 K, ← h1, g4, h2, hmon]; grind
    rw [rd_co P K hp hφ] at h3
    exact h3.symm
  have hle : l = mo P (co h (nu co h - 1)) 0 * g := by
    refine lift_u P K hp hφ hl1 (fun i => ?_) ?_
    · rw [mo_0 P]
      have := hB h i hh
      rw [show co h (nu co h - 1) * co g i = co g i * co h (nu co h - 1) by grind]
      omega
    · rw [hl2, rd_mul, rd_mo, g4, hcg, hlc, hφ.2.1]
      have : mo K (φ (co g (nu co g - 1)) * φ (co h (nu co h - 1))) 0 = mo K (φ (co g (nu co g - 1))) 0 * mo K (φ (co h (nu co h - 1))) 0 := by rw [mo_mm]
      rw [this]; grind
  rw [hlC] at hle
  exact prim_uq P he hhp hC g1 hC1 g2 hle
/-- a candidate that divides has these pieces -/
theorem fac_of {S T R : Type} [Lean.Grind.CommRing S] [Lean.Grind.CommRing T] [Lean.Grind.CommRing R] {co : S → Nat → Int} (P : isPol co) {ct : T → Nat → R} (K : isPol ct) {p : Nat} (hp : isZp R p) {φ : Int → R} (hφ : isRed φ p) {q : Nat → T} {m : Nat} {rest : S} (hl : ¬ (p : Int) ∣ co rest (nu co rest - 1)) {a : Nat → Bool} (hpm : pm q a m ≠ 0) {l C : S} {e : Int} (hl2 : rd P K hp hφ l = mo K (φ (co rest (nu co rest - 1))) 0 * pm q a m) (hC : prim co C) (hC1 : 0 < co C (nu co C - 1)) (hlC : l = mo P e 0 * C) (hd : dv C rest) : fac P K hp hφ q m rest a C := by
  have hF := hp.2.2.1
  have hE := pol_EU K hF
  have hr : φ (co rest (nu co rest - 1)) ≠ 0 := fun z => hl ((hφ.2.2.1 _).mp z)
  have h1 : mo K (φ e) 0 * rd P K hp hφ C = mo K (φ (co rest (nu co rest - 1))) 0 * pm q a m := by rw [← hl2, hlC, rd_mul, rd_mo]
  have he : φ e ≠ 0 := by
    intro z
    rw [z, mo_zero] at h1
    rcases eu_dom hE (show mo K (φ (co rest (nu co rest - 1))) 0 * pm q a m = 0 by rw [← h1]; grind) with w | w
    · have := (nu_zero K).mpr w; rw [mo_N K 0 hr] at this; omega
    · exact hpm w
  obtain ⟨d, hd1⟩ := hF.2 _ he
  refine ⟨hC, hC1, hd, d * φ (co rest (nu co rest - 1)), fun z => ?_, ?_⟩
  · rcases isF_D hF _ _ z with w | w
    · rw [w] at hd1; exact hF.1 (by grind)
    · exact hr w
  · have e2 : mo K d 0 * mo K (φ e) 0 = (1 : T) := by rw [mo_mm, show d * φ e = φ e * d by grind, hd1, mo_one]
    have e3 : mo K (d * φ (co rest (nu co rest - 1))) 0 = mo K d 0 * mo K (φ (co rest (nu co rest - 1))) 0 := by rw [mo_mm]
    rw [e3]
    have : rd P K hp hφ C = mo K d 0 * (mo K (φ e) 0 * rd P K hp hφ C) := by grind
    rw [this, h1]; grind
end MRecomb
