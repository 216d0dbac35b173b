/-! columns are cleared: the rows that a matrix sends to 0 -/
section MGauss
def nul {R : Type} [Lean.Grind.CommRing R] (n : Nat) (A : Nat → Nat → R) (v : Nat → R) : Prop := ∀ j, j < n → sm (fun i => v i * A i j) n = 0
noncomputable def Wv {R : Type} [Lean.Grind.CommRing R] (n : Nat) (A : Nat → Nat → R) (pv : Nat → Int) (k i : Nat) : R := (if i = k then 1 else 0) + sm (fun c => if pv c = (i : Int) then A k c else 0) n
/-- columns cleared up to a row -/
def GI {R : Type} [Lean.Grind.CommRing R] (n : Nat) (A0 A : Nat → Nat → R) (pv : Nat → Int) (row : Nat) : Prop := (∀ v, nul n A0 v ↔ nul n A v) ∧ (∀ c, c < n → 0 ≤ pv c → pv c < row ∧ A (pv c).toNat c = -1 ∧ ∀ j, j < n → j ≠ c → A (pv c).toNat j = 0) ∧ (∀ c d, c < n → d < n → 0 ≤ pv c → pv c = pv d → c = d) ∧ (∀ r j, r < row → j < n → pv j < 0 → A r j = 0)
theorem GI_0 {R : Type} [Lean.Grind.CommRing R] (n : Nat) (A : Nat → Nat → R) {pv : Nat → Int} (h : ∀ c, c < n → pv c < 0) : GI n A A pv 0 := ⟨fun _ => Iff.rfl, fun c hc h0 => by have := h c hc; omega, fun c d hc _ h0 _ => by have := h c hc; omega, fun r j hr => absurd hr (by omega)⟩
theorem GI_free {R : Type} [Lean.Grind.CommRing R] {n : Nat} {A0 A : Nat → Nat → R} {pv : Nat → Int} {row : Nat} (h : GI n A0 A pv row) (hf : ∀ j, j < n → pv j < 0 → A row j = 0) : GI n A0 A pv (row + 1) := by
  obtain ⟨h1, h2, h3, h4⟩ := h
  refine ⟨h1, fun c hc h0 => ?_, h3, fun r j hr hj hp => ?_⟩
  · obtain ⟨a, b⟩ := h2 c hc h0
    exact ⟨by omega, b⟩
  · rcases Nat.lt_or_ge r row with z | z
    · exact h4 r j z hj hp
    · rw [show r = row by omega]; exact hf j hj hp
theorem GI_piv {R : Type} [Lean.Grind.CommRing R] {n : Nat} {A0 A A' : Nat → Nat → R} {pv pv' : Nat → Int} {row col : Nat} (h : GI n A0 A pv row) (hcol : col < n) (hpc : pv col < 0) {s : R} (hs : A row col * s = -1) (hA1 : ∀ i, i < n → A' i col = A i col * s) (hA2 : ∀ i j, i < n → j < n → j ≠ col → A' i j = A i j + A row j * (A i col * s)) (hrow : row < n) (hpv1 : pv' col = row) (hpv2 : ∀ c, c ≠ col → pv' c = pv c) : GI n A0 A' pv' (row + 1) := by
  obtain ⟨h1, h2, h3, h4⟩ := h
  have hold : ∀ r, r < row → ∀ j, j < n → A' r j = A r j := fun r hr j hj => by
    have hz := h4 r col hr hcol hpc
    by_cases z : j = col
    · rw [z, hA1 r (by omega), hz]; grind
    · rw [hA2 r j (by omega) hj z, hz]; grind
  refine ⟨fun v => (h1 v).trans ⟨fun hv => ?_, fun hv => ?_⟩, fun c hc h0 => ?_, fun c d hc hd h0 he => ?_, fun r j hr hj hp => ?_⟩
  · have key : ∀ j, j < n → j ≠ col → sm (fun i => v i * A' i j) n = sm (fun i => v i * A i j) n + A row j * s * sm (fun i => v i * A i col) n := fun j hj hne => by
      rw [← sm_mul, ← sm_add]
      refine sm_congr (fun i hi => ?_)
      rw [hA2 i j hi hj hne]; grind
    intro j hj
    by_cases z : j = col
    · have : sm (fun i => v i * A' i j) n = s * sm (fun i => v i * A i col) n := by
        rw [← sm_mul]
        refine sm_congr (fun i hi => ?_)
        rw [z, hA1 i hi]; grind
      rw [this, hv col hcol]; grind
    · rw [key j hj z, hv j hj, hv col hcol]; grind
  · have e1 : sm (fun i => v i * A' i col) n = s * sm (fun i => v i * A i col) n := by
      rw [← sm_mul]
      refine sm_congr (fun i hi => ?_)
      rw [hA1 i hi]; grind
    have e2 : sm (fun i => v i * A i col) n = 0 := by
      have h5 := hv col hcol
      rw [e1] at h5
      have : A row col * (s * sm (fun i => v i * A i col) n) = 0 := by rw [h5]; grind
      have h6 : (A row col * s) * sm (fun i => v i * A i col) n = 0 := by rw [← this]; grind
      rw [hs] at h6
      grind
    intro j hj
    by_cases z : j = col
    · rw [z]; exact e2
    · have key : sm (fun i => v i * A' i j) n = sm (fun i => v i * A i j) n + A row j * s * sm (fun i => v i * A i col) n := by
        rw [← sm_mul, ← sm_add]
        refine sm_congr (fun i hi => ?_)
        rw [hA2 i j hi hj z]; grind
      have h5 := hv j hj
      rw [key, e2] at h5
      rw [← h5]; grind
  · by_cases z : c = col
    · rw [z, hpv1]
      have e : ((row : Int)).toNat = row := by omega
      rw [e]
      refine ⟨by omega, by rw [hA1 row hrow]; exact hs, fun j hj hne => ?_⟩
      rw [hA2 row j hrow hj hne, hs]; grind
    · rw [hpv2 c z] at h0 ⊢
      obtain ⟨a, b, d⟩ := h2 c hc h0
      refine ⟨by omega, ?_, fun j hj hne => ?_⟩
      · rw [hold _ (by omega) c hc]; exact b
      · rw [hold _ (by omega) j hj]; exact d j hj hne
  · by_cases z : c = col
    · by_cases y : d = col
      · omega
      · exfalso
        rw [z, hpv1, hpv2 d y] at he
        have := (h2 d hd (by omega)).1
        omega
    · rw [hpv2 c z] at h0 he
      by_cases y : d = col
      · exfalso
        rw [y, hpv1] at he
        have := (h2 c hc h0).1
        omega
      · rw [hpv2 d y] at he
        exact h3 c d hc hd h0 he
  · have hjc : j ≠ col := fun z => by rw [z, hpv1] at hp; omega
    rw [hpv2 j hjc] at hp
    rcases Nat.lt_or_ge r row with z | z
    · rw [hold r z j hj]; exact h4 r j z hj hp
    · rw [show r = row by omega, hA2 row j hrow hj hjc, hs]; grind
theorem sm_pick {R : Type} [Lean.Grind.CommRing R] {n k : Nat} (hk : k < n) (F : Nat → R) : sm (fun i => if i = k then F i else 0) n = F k := by
  rw [sm_one (k := k) hk (fun i _ hne => if_neg hne), if_pos rfl]
theorem Wv_null {R : Type} [Lean.Grind.CommRing R] {n : Nat} {A0 A : Nat → Nat → R} {pv : Nat → Int} (h : GI n A0 A pv n) {k : Nat} (hk : k < n) (hfree : ∀ c, c < n → pv c ≠ k) : nul n A (Wv n A pv k) := by
  obtain ⟨h1, h2, h3, h4⟩ := h
  intro j hj
  have e1 : sm (fun i => Wv n A pv k i * A i j) n = sm (fun i => if i = k then A k j else 0) n + sm (fun i => sm (fun c => if pv c = (i : Int) then A k c * A i j else 0) n) n := by
    rw [← sm_add]
    refine sm_congr (fun i hi => ?_)
    unfold Wv
    have e2 : sm (fun c => if pv c = (i : Int) then A k c else 0) n * A i j = sm (fun c => if pv c = (i : Int) then A k c * A i j else 0) n := by
      rw [← sm_mulr]
      refine sm_congr (fun c _ => ?_)
      split <;> grind
    rw [← e2]
    by_cases z : i = k
    · rw [if_pos z, if_pos z, z]; grind
    · rw [if_neg z, if_neg z]; grind
  rw [e1, sm_swap, sm_one (k := k) hk (fun i _ hne => if_neg hne), if_pos rfl]
  have e3 : ∀ c, c < n → sm (fun i => if pv c = (i : Int) then A k c * A i j else 0) n = if 0 ≤ pv c ∧ c = j then - A k j else 0 := fun c hc => by
    by_cases z : 0 ≤ pv c
    · obtain ⟨a, b, d⟩ := h2 c hc z
      rw [sm_one (k := (pv c).toNat) (by omega) (fun i _ hne => if_neg (by omega)), if_pos (by omega)]
      by_cases y : c = j
      · rw [if_pos ⟨z, y⟩, ← y, b]; grind
      · rw [if_neg (fun w => y w.2), d j hj (fun w => y w.symm)]; grind
    · rw [if_neg (fun w => z w.1)]
      exact sm_zero (fun i _ => if_neg (by omega))
  rw [sm_congr e3]
  by_cases z : 0 ≤ pv j
  · rw [sm_one (k := j) hj (fun c _ hne => if_neg (fun w => hne w.2)), if_pos ⟨z, rfl⟩]; grind
  · rw [sm_zero (fun c _ => if_neg (fun w => z (by rw [← w.2]; exact w.1))), h4 k j hk hj (by omega)]; grind
theorem Wv_at {R : Type} [Lean.Grind.CommRing R] {n : Nat} {A : Nat → Nat → R} {pv : Nat → Int} {k i : Nat} (hfree : ∀ c, c < n → pv c ≠ i) : Wv n A pv k i = if i = k then 1 else 0 := by
  unfold Wv
  rw [sm_zero (fun c hc => if_neg (hfree c hc))]
  split <;> grind
/-- the rows found are a basis -/
theorem Wv_base {R : Type} [Lean.Grind.CommRing R] {n : Nat} {A0 A : Nat → Nat → R} {pv : Nat → Int} (h : GI n A0 A pv n) {fr : Nat → Nat} {m : Nat} (hfr : ∀ t, t < m → fr t < n ∧ ∀ c, c < n → pv c ≠ fr t) (hinj : ∀ s t, s < t → t < m → fr s ≠ fr t) (hall : ∀ k, k < n → (∀ c, c < n → pv c ≠ k) → ∃ t, t < m ∧ fr t = k) :
    (∀ t, t < m → nul n A0 (Wv n A pv (fr t))) ∧ (∀ v, nul n A0 v → ∀ i, i < n → v i = sm (fun t => v (fr t) * Wv n A pv (fr t) i) m) ∧ ∀ x : Nat → R, (∀ i, i < n → sm (fun t => x t * Wv n A pv (fr t) i) m = 0) → ∀ t, t < m → x t = 0 := by
  have hnull : ∀ t, t < m → nul n A (Wv n A pv (fr t)) := fun t ht => Wv_null h (hfr t ht).1 (hfr t ht).2
  have hone : ∀ x : Nat → R, ∀ s, s < m → sm (fun t => x t * Wv n A pv (fr t) (fr s)) m = x s := fun x s hs => by
    have e : ∀ t, t < m → x t * Wv n A pv (fr t) (fr s) = if t = s then x t else 0 := fun t ht => by
      rw [Wv_at (hfr s hs).2]
      by_cases z : t = s
      · rw [if_pos z, if_pos (by rw [z])]; grind
      · rw [if_neg z, if_neg (fun w => by
          rcases Nat.lt_or_ge s t with y | y
          · exact hinj s t y ht w
          · exact hinj t s (by omega) hs w.symm)]; grind
    rw [sm_congr e, sm_pick hs]
  refine ⟨fun t ht => (h.1 _).mpr (hnull t ht), fun v hv i hi => ?_, fun x hx t ht => ?_⟩
  · have hv' := (h.1 v).mp hv
    obtain ⟨w, hw⟩ : ∃ w : Nat → R, w = fun i => v i - sm (fun t => v (fr t) * Wv n A pv (fr t) i) m := ⟨_, rfl⟩
    have hwn : nul n A w := fun j hj => by
      have e1 : sm (fun i => w i * A i j) n = sm (fun i => v i * A i j) n - sm (fun t => v (fr t) * sm (fun i => Wv n A pv (fr t) i * A i j) n) m := by
        have e2 : sm (fun t => v (fr t) * sm (fun i => Wv n A pv (fr t) i * A i j) n) m = sm (fun i => sm (fun t => v (fr t) * Wv n A pv (fr t) i * A i j) m) n := by
          rw [← sm_swap]
          refine sm_congr (fun t _ => ?_)
          rw [← sm_mul]
          exact sm_congr (fun i _ => by grind)
        rw [e2, ← sm_sub]
        refine sm_congr (fun i _ => ?_)
        rw [hw]; dsimp only
        rw [sm_mulr]; grind
      rw [e1, hv' j hj, sm_zero (fun t ht => by rw [hnull t ht j hj]; grind)]; grind
    have hwf : ∀ k, k < n → (∀ c, c < n → pv c ≠ k) → w k = 0 := fun k hk hf => by
      obtain ⟨s, hs, e⟩ := hall k hk hf
      rw [hw]; dsimp only
      rw [← e, hone (fun t => v (fr t)) s hs]; grind
    have hw0 : w i = 0 := by
      by_cases hp : ∃ c, c < n ∧ pv c = i
      · obtain ⟨c, hc, e⟩ := hp
        obtain ⟨a, b, d⟩ := h.2.1 c hc (by omega)
        have e0 : (pv c).toNat = i := by omega
        rw [e0] at b d
        have h5 := hwn c hc
        rw [sm_one (k := i) hi (fun r hr hne => by
          by_cases hf : ∀ c, c < n → pv c ≠ r
          · rw [hwf r hr hf]; grind
          · obtain ⟨c', hc', e'⟩ : ∃ c', c' < n ∧ pv c' = r := by
              apply Classical.byContradiction
              intro hno
              exact hf (fun c hc z => hno ⟨c, hc, z⟩)
            obtain ⟨-, -, d'⟩ := h.2.1 c' hc' (by omega)
            have hcc : c ≠ c' := fun z => hne (by rw [z] at e; omega)
            have := d' c hc hcc
            rw [show (pv c').toNat = r by omega] at this
            rw [this]; grind), b] at h5
        rw [show w i = -(w i * -1) by grind, h5]; grind
      · exact hwf i hi (fun c hc z => hp ⟨c, hc, z⟩)
    rw [hw] at hw0
    dsimp only at hw0
    grind
  · have h5 := hx (fr t) (hfr t ht).1
    rw [hone x t ht] at h5
    exact h5
/-- in words of polynomials: Berlekamp's rows -/
theorem berl_base {R T : Type} [Lean.Grind.CommRing R] [Lean.Grind.CommRing T] {ct : T → Nat → R} (K : isPol ct) {p : Nat} (hp : isZp R p) {f : T} (hf : 2 ≤ nu ct f) {A0 A : Nat → Nat → R} {Rr : Nat → T} (hR : ∀ i, i < nu ct f - 1 → nu ct (Rr i) < nu ct f ∧ dv f (mo K 1 1 ^ (i * p) - Rr i)) (hA0 : ∀ i j, i < nu ct f - 1 → j < nu ct f - 1 → A0 i j = ct (Rr i) j - if i = j then 1 else 0) {pv : Nat → Int} (h : GI (nu ct f - 1) A0 A pv (nu ct f - 1)) {fr : Nat → Nat} {m : Nat} (hfr : ∀ t, t < m → fr t < nu ct f - 1 ∧ ∀ c, c < nu ct f - 1 → pv c ≠ fr t) (hinj : ∀ s t, s < t → t < m → fr s ≠ fr t) (hall : ∀ k, k < nu ct f - 1 → (∀ c, c < nu ct f - 1 → pv c ≠ k) → ∃ t, t < m ∧ fr t = k) {B : Nat → T} (hB : ∀ t, t < m → ∀ i, ct (B t) i = if i < nu ct f - 1 then Wv (nu ct f - 1) A pv (fr t) i else 0) : isB K p f B m := by
  have hF := hp.2.2.1
  have hE := pol_EU K hF
  obtain ⟨b1, b2, b3⟩ := Wv_base h hfr hinj hall
  -- null rows are those that are their own power
  have key : ∀ v : T, nu ct v < nu ct f → (dv f (v ^ p - v) ↔ nul (nu ct f - 1) A0 (ct v)) := fun v hv => by
    have e1 : v = sm (fun i => mo K (ct v i) 0 * mo K 1 1 ^ i) (nu ct f - 1) := by
      have := ev_X K v
      rw [ev_n K v _ (n := nu ct f - 1) (by omega)] at this
      exact this.symm
    have e2 : v ^ p = sm (fun i => mo K (ct v i) 0 * mo K 1 1 ^ (i * p)) (nu ct f - 1) := by
      have := ev_p K hp v (mo K 1 1)
      rw [ev_X K, ev_n K v _ (n := nu ct f - 1) (by omega)] at this
      rw [this]
      refine sm_congr (fun i _ => ?_)
      rw [← pw_mul, Nat.mul_comm]
    obtain ⟨D, hD⟩ : ∃ D : T, D = sm (fun i => mo K (ct v i) 0 * (Rr i - mo K 1 1 ^ i)) (nu ct f - 1) := ⟨_, rfl⟩
    have e3 : dv f (v ^ p - v - D) := by
      have e4 : v ^ p - v - D = sm (fun i => mo K (ct v i) 0 * (mo K 1 1 ^ (i * p) - Rr i)) (nu ct f - 1) := by
        rw [e2, hD]
        have e5 : sm (fun i => mo K (ct v i) 0 * mo K 1 1 ^ (i * p)) (nu ct f - 1) - sm (fun i => mo K (ct v i) 0 * mo K 1 1 ^ i) (nu ct f - 1) - sm (fun i => mo K (ct v i) 0 * (Rr i - mo K 1 1 ^ i)) (nu ct f - 1) = sm (fun i => mo K (ct v i) 0 * (mo K 1 1 ^ (i * p) - Rr i)) (nu ct f - 1) := by
          rw [← sm_sub, ← sm_sub]
          exact sm_congr (fun i _ => by grind)
        rw [← e5, ← e1]
      rw [e4]
      have : ∀ k, k ≤ nu ct f - 1 → dv f (sm (fun i => mo K (ct v i) 0 * (mo K 1 1 ^ (i * p) - Rr i)) k) := fun k => by
        induction k with
        | zero => intro _; exact dv_zero _
        | succ k ih => intro hk; rw [sm_succ]; exact dv_add (ih (by omega)) (dv_mull _ (hR k (by omega)).2)
      exact this _ (Nat.le_refl _)
    have hDc : ∀ j, j < nu ct f - 1 → ct D j = sm (fun i => ct v i * A0 i j) (nu ct f - 1) := fun j hj => by
      rw [hD, sm_co K]
      refine sm_congr (fun i hi => ?_)
      rw [mo_0 K, p_sub K, mo_pw K, mo_co K, hA0 i j hi hj, pw_one]
      by_cases z : i = j
      · rw [if_pos z, if_pos (by omega)]
      · rw [if_neg z, if_neg (by omega)]
    have hDh : ∀ j, nu ct f - 1 ≤ j → ct D j = 0 := fun j hj => by
      rw [hD, sm_co K]
      refine sm_zero (fun i hi => ?_)
      rw [mo_0 K, p_sub K, mo_pw K, mo_co K, if_neg (by omega), nu_hi K (Rr i) (by have := (hR i hi).1; omega)]; grind
    constructor
    · intro hd j hj
      have hdD : dv f D := by
        have := dv_sub hd e3
        rw [show v ^ p - v - (v ^ p - v - D) = D by grind] at this
        exact this
      have hD0 : D = 0 := by
        apply Classical.byContradiction
        intro hne
        have h5 := eu_le hE hdD hne
        have h6 : nu ct D ≤ nu ct f - 1 := nu_le K hDh
        omega
      rw [← hDc j hj, hD0, p_zero K]
    · intro hn
      have hD0 : D = 0 := p_ext K (fun j => by
        rw [p_zero K]
        rcases Nat.lt_or_ge j (nu ct f - 1) with z | z
        · rw [hDc j z]; exact hn j z
        · exact hDh j z)
      rw [hD0, show v ^ p - v - 0 = v ^ p - v by grind] at e3
      exact e3
  have hBN : ∀ t, t < m → nu ct (B t) < nu ct f := fun t ht => by
    have : nu ct (B t) ≤ nu ct f - 1 := nu_le K (fun i hi => by rw [hB t ht i, if_neg (by omega)])
    omega
  have hcong : ∀ {u w : Nat → R}, (∀ i, i < nu ct f - 1 → u i = w i) → nul (nu ct f - 1) A0 u → nul (nu ct f - 1) A0 w := fun huw hu j hj => by
    rw [← hu j hj]
    exact sm_congr (fun i hi => by rw [huw i hi])
  refine ⟨fun t ht => ⟨hBN t ht, (key _ (hBN t ht)).mpr (hcong (fun i hi => ?_) (b1 t ht))⟩, fun v hv hd => ?_, fun x hx t ht => ?_⟩
  · rw [hB t ht i, if_pos hi]
  · have hn := (key v hv).mp hd
    refine ⟨fun t => ct v (fr t), p_ext K (fun i => ?_)⟩
    rw [sm_co K]
    rcases Nat.lt_or_ge i (nu ct f - 1) with z | z
    · rw [b2 (ct v) hn i z]
      refine sm_congr (fun t ht => ?_)
      rw [mo_0 K, hB t ht i, if_pos z]
    · rw [nu_hi K v (by omega)]
      exact (sm_zero (fun t ht => by rw [mo_0 K, hB t ht i, if_neg (by omega)]; grind)).symm
  · refine b3 x (fun i hi => ?_) t ht
    have h5 := congrArg (fun z => ct z i) hx
    rw [sm_co K, p_zero K] at h5
    rw [← h5]
    refine sm_congr (fun t ht => ?_)
    rw [mo_0 K, hB t ht i, if_pos hi]
end MGauss
