/-! square-free parts over the whole numbers -/
section MSqz
theorem nu_sgn {S : Type} [Lean.Grind.CommRing S] {co : S → Nat → Int} (P : isPol co) {e x : S} (he : e = 1 ∨ e = -1) : nu co (e * x) = nu co x := by
  rcases he with q | q
  · rw [q, show (1 : S) * x = x by grind]
  · rw [q, show (-1 : S) * x = -x by grind]
    refine nu_eq P (fun i hi => by rw [p_neg P, nu_hi P x hi]; rfl) (fun h0 h => nu_top P x h0 ?_)
    rw [p_neg P] at h
    omega
theorem irz_ex {S : Type} [Lean.Grind.CommRing S] {co : S → Nat → Int} (P : isPol co) : ∀ (n : Nat) (f : S), nu co f ≤ n → prim co f → 2 ≤ nu co f → ∃ π, irz co π ∧ dv π f
  | 0, f, hn, _, h2 => absurd hn (by omega)
  | n + 1, f, hn, hp, h2 => by
    have hf0 := prim_ne P hp
    by_cases h : ∀ a b, f = a * b → nu co a = 1 ∨ nu co b = 1
    · obtain ⟨e, he, h6, h7⟩ := z_sgn P hf0
      have hee : e * e = 1 := by rcases he with q | q <;> rw [q] <;> grind
      refine ⟨e * f, ⟨prim_sgn P he hp, by omega, h6, fun a b hab => ?_⟩, dv_sgn he (dv_refl f)⟩
      have h8 : f = (e * a) * b := by
        have : e * (e * f) = e * (a * b) := by rw [hab]
        grind
      rcases h _ _ h8 with z | z
      · exact Or.inl (by rw [nu_sgn P he] at z; exact z)
      · exact Or.inr z
    · obtain ⟨a, b, hab, ha, hb⟩ : ∃ a b, f = a * b ∧ nu co a ≠ 1 ∧ nu co b ≠ 1 := by
        apply Classical.byContradiction
        intro hno
        apply h
        intro a b hab
        apply Classical.byContradiction
        intro hh
        exact hno ⟨a, b, hab, fun z => hh (Or.inl z), fun z => hh (Or.inr z)⟩
      have ha0 : a ≠ 0 := fun z => hf0 (by rw [hab, z]; grind)
      have hb0 : b ≠ 0 := fun z => hf0 (by rw [hab, z]; grind)
      have hm := nu_mul P int_D ha0 hb0
      rw [← hab] at hm
      have na : nu co a ≠ 0 := fun q => ha0 ((nu_zero P).mp q)
      have nb : nu co b ≠ 0 := fun q => hb0 ((nu_zero P).mp q)
      obtain ⟨π, h1, h2⟩ := irz_ex P n a (by omega) (prim_dv P hp ⟨b, hab⟩) (by omega)
      exact ⟨π, h1, dv_trans h2 ⟨b, hab⟩⟩
theorem nu_dr {S : Type} [Lean.Grind.CommRing S] {co : S → Nat → Int} (P : isPol co) {f : S} (h : nu co f ≠ 0) : nu co (dr P f) = nu co f - 1 := nu_eq P (fun i hi => by rw [dr_co P, nu_hi P f (by omega)]; grind) (fun h0 q => by
  rw [dr_co P, nt_int, show nu co f - 1 - 1 + 1 = nu co f - 1 by omega] at q
  rcases Int.mul_eq_zero.mp q with z | z
  · omega
  · exact nu_top P f h z)
theorem irz_ne {S : Type} [Lean.Grind.CommRing S] {co : S → Nat → Int} (P : isPol co) {π : S} (h : irz co π) : π ≠ 0 := prim_ne P h.1
theorem z_le {S : Type} [Lean.Grind.CommRing S] {co : S → Nat → Int} (P : isPol co) {a b : S} (h : dv a b) (hb : b ≠ 0) : nu co a ≤ nu co b := by
  obtain ⟨c, hc⟩ := h
  have ha0 : a ≠ 0 := fun z => hb (by rw [hc, z]; grind)
  have hc0 : c ≠ 0 := fun z => hb (by rw [hc, z]; grind)
  have := nu_mul P int_D ha0 hc0
  rw [← hc] at this
  have : nu co c ≠ 0 := fun q => hc0 ((nu_zero P).mp q)
  omega
theorem irz_dr {S : Type} [Lean.Grind.CommRing S] {co : S → Nat → Int} (P : isPol co) {π : S} (h : irz co π) : ¬ dv π (dr P π) := fun hd => by
  have h2 := h.2.1
  have h3 := nu_dr P (f := π) (by omega)
  have := z_le P hd (fun z => by rw [(nu_zero P).mpr z] at h3; omega)
  omega
theorem irz_cst {S : Type} [Lean.Grind.CommRing S] {co : S → Nat → Int} (P : isPol co) {π : S} (h : irz co π) {e : Nat} (he : e ≠ 0) : ¬ dv π (nt e : S) := fun hd => by
  have h2 := h.2.1
  have h3 : nu co (nt e : S) = 1 := by rw [mo_nt P, nt_int]; exact mo_N P 0 (by omega)
  have := z_le P hd (fun z => by rw [(nu_zero P).mpr z] at h3; omega)
  omega
theorem irz_max {S : Type} [Lean.Grind.CommRing S] {co : S → Nat → Int} (P : isPol co) {π : S} (h : irz co π) : ∀ (n : Nat) (f : S), nu co f ≤ n → f ≠ 0 → ∃ (e : Nat) (k : S), f = π ^ e * k ∧ ¬ dv π k
  | 0, f, hn, hf => absurd ((nu_zero P).mp (by omega)) hf
  | n + 1, f, hn, hf => by
    by_cases hd : dv π f
    · obtain ⟨w, hw⟩ := hd
      have hw0 : w ≠ 0 := fun z => hf (by rw [hw, z]; grind)
      have hm := nu_mul P int_D (irz_ne P h) hw0
      rw [← hw] at hm
      have h2 := h.2.1
      obtain ⟨e, k, h3, h4⟩ := irz_max P h n w (by omega) hw0
      exact ⟨e + 1, k, by rw [pw_succ, hw, h3]; grind, h4⟩
    · exact ⟨0, f, by rw [pw_zero]; grind, hd⟩
theorem irz_pw {S : Type} [Lean.Grind.CommRing S] {co : S → Nat → Int} (P : isPol co) {π : S} (h : irz co π) {k : S} (hk : ¬ dv π k) : ∀ {e : Nat} {g : S}, dv (π ^ e) (g * k) → dv (π ^ e) g
  | 0, g, _ => ⟨g, by rw [pw_zero]; grind⟩
  | e + 1, g, hd => by
    obtain ⟨w, hw⟩ := hd
    rw [pw_succ] at hw
    have h1 : dv π (g * k) := ⟨π ^ e * w, by rw [hw]; grind⟩
    rcases irz_dv P h h1 with z | z
    · obtain ⟨g', hg'⟩ := z
      have h2 : π * (g' * k) = π * (π ^ e * w) := by
        have : g * k = π ^ e * π * w := hw
        rw [hg'] at this
        grind
      have h3 : π * (g' * k - π ^ e * w) = 0 := by grind
      rcases z_dom P h3 with y | y
      · exact absurd y (irz_ne P h)
      · obtain ⟨v, hv⟩ := irz_pw P h hk (e := e) (g := g') ⟨w, by grind⟩
        exact ⟨v, by rw [pw_succ, hg', hv]; grind⟩
    · exact absurd z hk
theorem prim_pw {S : Type} [Lean.Grind.CommRing S] {co : S → Nat → Int} (P : isPol co) {π : S} (h : prim co π) : ∀ (e : Nat), prim co (π ^ e)
  | 0 => by
    rw [pw_zero]
    intro q hq
    refine ⟨0, fun hd => ?_⟩
    rw [p_one P, if_pos rfl] at hd
    have := Int.le_of_dvd (by omega) hd
    have := hq.1
    omega
  | e + 1 => by rw [pw_succ]; exact prim_mul P (prim_pw P h e) h
theorem dr_pwk {S : Type} [Lean.Grind.CommRing S] {co : S → Nat → Int} (P : isPol co) {π k F : S} (h : irz co π) (hk : ¬ dv π k) {e : Nat} (hF : F = π ^ (e + 1) * k) : dv (π ^ e) (dr P F) ∧ ¬ dv (π ^ (e + 1)) (dr P F) := by
  have e1 : dr P F = π ^ e * (nt (e + 1) * dr P π * k + π * dr P k) := by rw [hF, dr_mul, dr_pw P, pw_succ]; grind
  refine ⟨⟨_, e1⟩, fun hd => ?_⟩
  obtain ⟨w, hw⟩ := hd
  rw [e1, pw_succ] at hw
  have hpe : π ^ e ≠ 0 := prim_ne P (prim_pw P h.1 e)
  have h2 : π ^ e * ((nt (e + 1) * dr P π * k + π * dr P k) - π * w) = 0 := by grind
  rcases z_dom P h2 with z | z
  · exact hpe z
  · have h3 : dv π (nt (e + 1) * dr P π * k) := ⟨w - dr P k, by grind⟩
    rcases irz_dv P h h3 with y | y
    · rcases irz_dv P h y with x | x
      · exact irz_cst P h (by omega) x
      · exact irz_dr P h x
    · exact hk y
theorem sqz_no {S : Type} [Lean.Grind.CommRing S] {co : S → Nat → Int} (P : isPol co) {F g G : S} (hF0 : F ≠ 0) (hg : isG P F (dr P F) g) (hFG : F = g * G) {π : S} (h : irz co π) : ¬ dv (π * π) G := by
  intro hd
  obtain ⟨e0, k, hk, hnk⟩ := irz_max P h _ F (Nat.le_refl _) hF0
  have hdF : dv π F := by
    obtain ⟨w, hw⟩ := hd
    exact ⟨g * π * w, by rw [hFG, hw]; grind⟩
  cases e0 with
  | zero => rw [pw_zero, show (1 : S) * k = k by grind] at hk; rw [hk] at hdF; exact hnk hdF
  | succ e =>
    obtain ⟨d1, d2⟩ := dr_pwk P h hnk hk
    obtain ⟨g1, g2, g3, g4, c, u, v, hc, he⟩ := hg
    have h1 : dv (π ^ e) g := z_gcd_dv P hc he (prim_pw P h.1 e) ⟨π * k, by rw [hk, pw_succ]; grind⟩ d1
    obtain ⟨x, hx⟩ := h1
    obtain ⟨y, hy⟩ := hd
    have h2 : π ^ (e + 1) * k = π ^ (e + 1) * (π * x * y) := by rw [← hk, hFG, hx, hy, pw_succ]; grind
    have hpe : π ^ (e + 1) ≠ 0 := prim_ne P (prim_pw P h.1 (e + 1))
    have h3 : π ^ (e + 1) * (k - π * x * y) = 0 := by grind
    rcases z_dom P h3 with z | z
    · exact hpe z
    · exact hnk ⟨x * y, by grind⟩
theorem sqz_all {S : Type} [Lean.Grind.CommRing S] {co : S → Nat → Int} (P : isPol co) {F g G : S} (hF0 : F ≠ 0) (hg : isG P F (dr P F) g) (hFG : F = g * G) {π : S} (h : irz co π) (hd : dv π F) : dv π G := by
  obtain ⟨e0, k, hk, hnk⟩ := irz_max P h _ F (Nat.le_refl _) hF0
  cases e0 with
  | zero => rw [pw_zero, show (1 : S) * k = k by grind] at hk; rw [hk] at hd; exact absurd hd hnk
  | succ e =>
    obtain ⟨d1, d2⟩ := dr_pwk P h hnk hk
    apply Classical.byContradiction
    intro hno
    have h1 : dv (π ^ (e + 1)) (g * G) := ⟨k, by rw [← hFG, hk]⟩
    exact d2 (dv_trans (irz_pw P h hno h1) hg.2.2.2.1)
theorem sqz_one {S : Type} [Lean.Grind.CommRing S] {co : S → Nat → Int} (P : isPol co) {G : S} (hG : prim co G) (hN : 2 ≤ nu co G) (hs : ∀ π, irz co π → ¬ dv (π * π) G) : isG P G (dr P G) 1 := by
  have hG0 := prim_ne P hG
  obtain ⟨g, hg⟩ := isG_ex P (dr P G) hG0
  have hg' := hg
  obtain ⟨g1, g2, g3, g4, c, u, v, hc, he⟩ := hg
  have hn0 : nu co g ≠ 0 := fun z => prim_ne P g1 ((nu_zero P).mp z)
  rcases Nat.lt_or_ge (nu co g) 2 with z | z
  · rcases prim_c P g1 (by omega) with y | y
    · rw [← y]; exact hg'
    · exfalso
      rw [y, show nu co (-1 : S) - 1 = 0 by rw [← y]; omega, p_neg P, p_one P, if_pos rfl] at g2
      omega
  · exfalso
    obtain ⟨π, h1, h2⟩ := irz_ex P _ g (Nat.le_refl _) g1 z
    obtain ⟨w, hw⟩ := dv_trans h2 g3
    have h3 := dv_trans h2 g4
    rw [hw, dr_mul] at h3
    have h4 : dv π (dr P π * w) := by
      obtain ⟨y, hy⟩ := h3
      exact ⟨y - dr P w, by grind⟩
    rcases irz_dv P h1 h4 with y | y
    · exact irz_dr P h1 y
    · obtain ⟨x, hx⟩ := y
      exact hs π h1 ⟨x, by rw [hw, hx]; grind⟩
end MSqz
