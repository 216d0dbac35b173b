/-! the class's splitter: all pieces are irreducible in the end -/
section MClsB
/-- the pieces, their rows -/
def PCc {R T : Type} [Lean.Grind.CommRing T] [Lean.Grind.CommRing R] (ct : T → Nat → R) (φ : Int → R) (p : Nat) (M : MI) (m : Nat) (q : Nat → T) : Prop := M.2 4 1 = m ∧ ∀ j, j < m → CP ct φ p M (129 + j) (q j) ∧ ct (q j) (nu ct (q j) - 1) = 1 ∧ 2 ≤ nu ct (q j)
theorem pdn_mem {T : Type} [Lean.Grind.CommRing T] (q : Nat → T) : ∀ {m j : Nat}, j < m → dv (q j) (pdn q m)
  | 0, j, h => absurd h (by omega)
  | m + 1, j, h => by
    rcases Nat.lt_or_ge j m with z | z
    · exact dv_trans (pdn_mem q z) (dv_l _ _)
    · rw [show j = m by omega]; exact dv_r _ _
theorem irr_pdn {S : Type} [Lean.Grind.CommRing S] {N : S → Nat} (E : EU S N) {π : S} (hπ : irr N π) {q : Nat → S} (h0 : (1 : S) ≠ 0) : ∀ {m : Nat}, dv π (pdn q m) → ∃ j, j < m ∧ dv π (q j)
  | 0, h => by
    exfalso
    have h1 := eu_le E h h0
    have h2 := hπ.1
    have h3 := eu_one E h0
    simp only [pdn] at h1
    omega
  | m + 1, h => by
    rcases irr_dv E hπ h with z | z
    · obtain ⟨j, hj, e⟩ := irr_pdn E hπ h0 z
      exact ⟨j, by omega, e⟩
    · exact ⟨m, by omega, z⟩
def SIc {R T : Type} [Lean.Grind.CommRing T] [Lean.Grind.CommRing R] (ct : T → Nat → R) (φ : Int → R) (p : Nat) (M0 : MI) (f : T) (B : Nat → T) (k : Nat) (M : MI) (m : Nat) (q : Nat → T) : Prop := ok M ∧ chS (RSY ++ [129, 130, 131, 132, 133, 134, 135, 136, 137, 138]) M0 M ∧ M.2 4 2 = k ∧ PCc ct φ p M m q ∧ pdn q m = f
theorem SIc_m {R T : Type} [Lean.Grind.CommRing R] [Lean.Grind.CommRing T] {ct : T → Nat → R} (K : isPol ct) (hF : isF R) {φ : Int → R} {p : Nat} {M0 : MI} {f : T} {B : Nat → T} {k : Nat} {M : MI} {m : Nat} {q : Nat → T} (hf : nu ct f ≤ 11) (h : SIc ct φ p M0 f B k M m q) : m ≤ 10 ∧ ∀ j, j < m → 3 ≤ nu ct (q j) → m < 10 := by
  obtain ⟨-, -, -, h1, h2⟩ := h
  have h3 := pdn_nu K hF (q := q) (m := m) (fun j hj => (h1.2 j hj).2.2)
  rw [h2] at h3
  refine ⟨by omega, fun j hj hn => ?_⟩
  -- one more factor would not fit
  have key : ∀ m', (∀ i, i < m' → 2 ≤ nu ct (q i)) → (∃ i, i < m' ∧ 3 ≤ nu ct (q i)) → m' + 2 ≤ nu ct (pdn q m') := fun m' => by
    induction m' with
    | zero => rintro _ ⟨i, hi, _⟩; omega
    | succ m' ih =>
      intro h5 ⟨i, hi, h6⟩
      obtain ⟨n1, n2⟩ := pdn_nu K hF (q := q) (m := m') (fun j hj => h5 j (by omega))
      have h7 := h5 m' (by omega)
      have h8 : q m' ≠ 0 := fun z => by rw [(nu_zero K).mpr z] at h7; omega
      have h9 := nu_mul K (isF_D hF) n2 h8
      have h10 : nu ct (pdn q (m' + 1)) = nu ct (pdn q m' * q m') := rfl
      rcases Nat.lt_or_ge i m' with z | z
      · have := ih (fun j hj => h5 j (by omega)) ⟨i, z, h6⟩
        omega
      · rw [show i = m' by omega] at h6
        omega
  have := key m (fun i hi => (h1.2 i hi).2.2) ⟨j, hj, hn⟩
  rw [h2] at this
  omega
theorem c_splitJ {R T : Type} [Lean.Grind.CommRing R] [Lean.Grind.CommRing T] {ct : T → Nat → R} (K : isPol ct) {p : Nat} (hp : isZp R p) {φ : Int → R} (hφ : isRed φ p) (hp2 : p ≤ 100000000) (hp3 : 3 ≤ p) {f : T} (hNf : nu ct f ≤ 11) (hsq : sqf (nu ct) f) {B : Nat → T} {k i s : Nat} (hik : i < k) (hk : k ≤ 10) (hs : s < 1000000) {M0 : MI} (hM0 : M0.1 1 0 = p) (hB : ∀ t, t < k → CP ct φ p M0 (149 + t) (B t)) {M : MI} {m : Nat} {q : Nat → T} (h : SIc ct φ p M0 f B k M m q) {n : Nat} (hn : 18446744073709551616 ≤ n) :
    ∃ (M' : MI) (m' : Nat) (q' : Nat → T), lpF (l_X6_split_53 n m s i) n (M, 0) = some M' ∧ SIc ct φ p M0 f B k M' m' q' ∧ (∀ j, j < m' → ∃ l, l < m ∧ dv (q' j) (q l)) ∧ ∀ j, j < m' → Okp K p (B i) s (q' j) := by
  have hF := hp.2.2.1
  have hm0 := SIc_m K hF hNf h
  obtain ⟨M', hL, m', q', h1, h2, h3, h4⟩ := lp_do (step := l_X6_split_53 n m s i) (fun st => ∃ (J m1 : Nat) (q1 : Nat → T), st.2 = J ∧ J ≤ m ∧ m ≤ m1 ∧ SIc ct φ p M0 f B k st.1 m1 q1 ∧ (∀ j, j < m1 → ∃ l, l < m ∧ dv (q1 j) (q l)) ∧ (∀ j, j < m1 → (j < J ∨ m ≤ j) → Okp K p (B i) s (q1 j))) (fun st => (20 - st.2).toNat) (fun M' => ∃ (m' : Nat) (q' : Nat → T), SIc ct φ p M0 f B k M' m' q' ∧ (∀ j, j < m' → ∃ l, l < m ∧ dv (q' j) (q l)) ∧ (∀ j, j < m' → Okp K p (B i) s (q' j)) ∧ True) (fun st hst => by
    obtain ⟨Ma, y⟩ := st
    obtain ⟨J, m1, q1, hy, hJ, hm1, hS, hl, hO⟩ := hst
    dsimp only at hy hS
    subst hy
    obtain ⟨hm10, hm3⟩ := SIc_m K hF hNf hS
    obtain ⟨k1, k2, k3, hPC, hpd⟩ := id hS
    unfold l_X6_split_53
    dsimp only
    rw [gI_s (by omega) (by omega), bs]
    by_cases hlt : (m : Int) ≤ J
    · rw [if_pos hlt]
      exact Or.inl ⟨_, rfl, m1, q1, hS, hl, fun j hj => hO j hj (by omega), trivial⟩
    · obtain ⟨cJ, mJ, nJ⟩ := hPC.2 J (by omega)
      have hbi : CP ct φ p Ma (149 + i) (B i) := CP_chS (hB i hik) k2 (by simp [RSY]; omega)
      have hmp : Ma.1 1 0 = p := by rw [k2.1 1 0 (by simp [RSY])]; exact hM0
      have hqJf : dv (q1 J) f := by rw [← hpd]; exact pdn_mem q1 (by omega)
      obtain ⟨Mb, eb, hokb, hres⟩ := c_splitPiece K hp hφ hp2 hp3 k1 (j := J) (i := i) (m := m1) (by omega) (by omega) hmp hPC.1 hm10 cJ hbi nJ mJ (sqf_dv hsq hqJf) (hm3 J (by omega)) hs hn
      rw [if_neg hlt, oA20 rfl (by omega), bs, oA22 rfl (by omega), bs, eb, bs]
      rcases hres with ⟨hcb, hb41, hb42, hOk⟩ | ⟨w, v, hwv, hcb, hm9, hb41, hb42, cw, cv, nw, nv, mw, mv, ow, ov⟩
      · refine Or.inr ⟨_, rfl, ⟨J + 1, m1, q1, by dsimp only; omega, by omega, hm1, ⟨hokb, chS_mono (chS_trans k2 hcb) (fun x hx => by simp [RSY] at hx ⊢; omega), by rw [hb42]; exact k3, ⟨hb41, fun j hj => ⟨CP_chS (hPC.2 j hj).1 hcb (by simp [RSY]; omega), (hPC.2 j hj).2⟩⟩, hpd⟩, hl, fun j hj hjJ => ?_⟩, by dsimp only; omega⟩
        by_cases z : j = J
        · rw [z]; exact hOk
        · exact hO j hj (by omega)
      · obtain ⟨q2, hq2⟩ : ∃ q2 : Nat → T, q2 = fun a => if a = J then w else if a = m1 then v else q1 a := ⟨_, rfl⟩
        have q2J : q2 J = w := by rw [hq2]; dsimp only; rw [if_pos rfl]
        have q2m : q2 m1 = v := by rw [hq2]; dsimp only; rw [if_neg (by omega), if_pos rfl]
        have q2o : ∀ a, a ≠ J → a ≠ m1 → q2 a = q1 a := fun a h1 h2 => by rw [hq2]; dsimp only; rw [if_neg h1, if_neg h2]
        obtain ⟨lJ, hlJ, dJ⟩ := hl J (by omega)
        refine Or.inr ⟨_, rfl, ⟨J + 1, m1 + 1, q2, by dsimp only; omega, by omega, by omega, ⟨hokb, ?_, by rw [hb42]; exact k3, ⟨hb41, fun a ha => ?_⟩, ?_⟩, fun a ha => ?_, fun a ha haJ => ?_⟩, by dsimp only; omega⟩
        · refine chS_mono (chS_trans k2 hcb) (fun x hx => ?_)
          simp [RSY] at hx ⊢
          omega
        · by_cases z1 : a = J
          · rw [z1, q2J]; exact ⟨cw, mw, nw⟩
          · by_cases z2 : a = m1
            · rw [z2, q2m]; exact ⟨cv, mv, nv⟩
            · rw [q2o a z1 z2]
              obtain ⟨a1, a2⟩ := hPC.2 a (by omega)
              exact ⟨CP_chS a1 hcb (by simp [RSY]; omega), a2⟩
        · show pdn q2 m1 * q2 m1 = f
          rw [q2m, ← hpd]
          have hcg : pdn q2 m1 = pdn (fun a => if a = J then w else q1 a) m1 := pdn_congr (fun a ha => by
            by_cases z1 : a = J
            · rw [z1, q2J, if_pos rfl]
            · rw [q2o a z1 (by omega), if_neg z1])
          rw [hcg]
          exact pdn_upd (k := J) (by rw [if_pos rfl]; exact hwv) (fun a ha => by rw [if_neg ha]) (by omega)
        · by_cases z1 : a = J
          · rw [z1, q2J]; exact ⟨lJ, hlJ, dv_trans ⟨v, hwv.symm⟩ dJ⟩
          · by_cases z2 : a = m1
            · rw [z2, q2m]; exact ⟨lJ, hlJ, dv_trans ⟨w, by rw [← hwv]; grind⟩ dJ⟩
            · rw [q2o a z1 z2]; exact hl a (by omega)
        · by_cases z1 : a = J
          · rw [z1, q2J]; exact ow
          · by_cases z2 : a = m1
            · rw [z2, q2m]; exact ov
            · rw [q2o a z1 z2]; exact hO a (by omega) (by omega)) n (M, 0) ⟨0, m, q, rfl, by omega, Nat.le_refl _, h, fun j hj => ⟨j, hj, dv_refl _⟩, fun j hj hjJ => by omega⟩ (by dsimp only; omega)
  exact ⟨M', m', q', hL, h1, h2, h3⟩
theorem c_splitI {R T : Type} [Lean.Grind.CommRing R] [Lean.Grind.CommRing T] {ct : T → Nat → R} (K : isPol ct) {p : Nat} (hp : isZp R p) {φ : Int → R} (hφ : isRed φ p) (hp2 : p ≤ 100000000) (hp3 : 3 ≤ p) {f : T} (hNf : nu ct f ≤ 11) (hsq : sqf (nu ct) f) {B : Nat → T} {k s : Nat} (hk : k ≤ 10) (hk1 : 1 ≤ k) (hs : s < 1000000) {M0 : MI} (hM0 : M0.1 1 0 = p) (hB : ∀ t, t < k → CP ct φ p M0 (149 + t) (B t)) {M : MI} {m : Nat} {q : Nat → T} (h : SIc ct φ p M0 f B k M m q) {n : Nat} (hn : 18446744073709551616 ≤ n) :
    ∃ (M' : MI) (m' : Nat) (q' : Nat → T), lpF (l_X6_split_36 n s) n (M, 1) = some M' ∧ SIc ct φ p M0 f B k M' m' q' ∧ (∀ j, j < m' → ∃ l, l < m ∧ dv (q' j) (q l)) ∧ ∀ i, 1 ≤ i → i < k → ∀ j, j < m' → Okp K p (B i) s (q' j) := by
  have hF := hp.2.2.1
  obtain ⟨M', hL, m', q', h1, h2, h3⟩ := lp_do (step := l_X6_split_36 n s) (fun st => ∃ (I m1 : Nat) (q1 : Nat → T), st.2 = I ∧ 1 ≤ I ∧ I ≤ k ∧ SIc ct φ p M0 f B k st.1 m1 q1 ∧ (∀ j, j < m1 → ∃ l, l < m ∧ dv (q1 j) (q l)) ∧ (∀ i, 1 ≤ i → i < I → ∀ j, j < m1 → Okp K p (B i) s (q1 j))) (fun st => (20 - st.2).toNat) (fun M' => ∃ (m' : Nat) (q' : Nat → T), SIc ct φ p M0 f B k M' m' q' ∧ (∀ j, j < m' → ∃ l, l < m ∧ dv (q' j) (q l)) ∧ ∀ i, 1 ≤ i → i < k → ∀ j, j < m' → Okp K p (B i) s (q' j)) (fun st hst => by
    obtain ⟨Ma, y⟩ := st
    obtain ⟨I, m1, q1, hy, hI1, hI, hS, hl, hO⟩ := hst
    dsimp only at hy hS
    subst hy
    obtain ⟨hm10, -⟩ := SIc_m K hF hNf hS
    unfold l_X6_split_36
    dsimp only
    rw [hS.2.2.1, gI_s (by omega) (by omega), bs]
    by_cases hlt : (k : Int) ≤ I
    · rw [if_pos hlt]
      exact Or.inl ⟨_, rfl, m1, q1, hS, hl, fun i h1 h2 => hO i h1 (by omega)⟩
    · obtain ⟨Mb, m2, q2, eb, hS2, hl2, hO2⟩ := c_splitJ K hp hφ hp2 hp3 hNf hsq (i := I) (s := s) (by omega) hk hs hM0 hB hS hn
      rw [if_neg hlt, hS.2.2.2.1.1, eb, bs]
      refine Or.inr ⟨_, rfl, ⟨I + 1, m2, q2, by dsimp only; omega, by omega, by omega, hS2, fun j hj => ?_, fun i h1 h2 j hj => ?_⟩, by dsimp only; omega⟩
      · obtain ⟨l, hl', d⟩ := hl2 j hj
        obtain ⟨l2, hl2', d2⟩ := hl l hl'
        exact ⟨l2, hl2', dv_trans d d2⟩
      · rcases Nat.lt_or_ge i I with z | z
        · obtain ⟨l, hl', d⟩ := hl2 j hj
          exact Okp_dv K d (hO i h1 z l hl')
        · rw [show i = I by omega]; exact hO2 j hj) n (M, 1) ⟨1, m, q, rfl, by omega, hk1, h, fun j hj => ⟨j, hj, dv_refl _⟩, fun i h1 h2 => absurd h1 (by omega)⟩ (by dsimp only; omega)
  exact ⟨M', m', q', hL, h1, h2, h3⟩
/-- pieces as many as irreducible factors are irreducible -/
theorem pcs_irr {R T : Type} [Lean.Grind.CommRing R] [Lean.Grind.CommRing T] {ct : T → Nat → R} (K : isPol ct) (hF : isF R) {f : T} (hf0 : f ≠ 0) (hsq : sqf (nu ct) f) {L : List T} (hL : FL (nu ct) f L) {q : Nat → T} {m : Nat} (hpd : pdn q m = f) (hq : ∀ j, j < m → 2 ≤ nu ct (q j)) (hm : m = L.length) : ∀ j, j < m → irr (nu ct) (q j) := by
  have hE := pol_EU K hF
  intro j hj
  apply Classical.byContradiction
  intro hno
  obtain ⟨a, b, hab, ha, hb⟩ : ∃ a b, q j = a * b ∧ nu ct a ≠ 1 ∧ nu ct b ≠ 1 := by
    apply Classical.byContradiction
    intro hh
    refine hno ⟨hq j hj, fun a b hab => ?_⟩
    apply Classical.byContradiction
    intro h2
    exact hh ⟨a, b, hab, fun z => h2 (Or.inl z), fun z => h2 (Or.inr z)⟩
  have hqf : ∀ i, i < m → dv (q i) f := fun i hi => by rw [← hpd]; exact pdn_mem q hi
  have hq0 : ∀ i, i < m → q i ≠ 0 := fun i hi z => by have := hq i hi; rw [(nu_zero K).mpr z] at this; omega
  have ha0 : a ≠ 0 := fun z => hq0 j hj (by rw [hab, z]; grind)
  have hb0 : b ≠ 0 := fun z => hq0 j hj (by rw [hab, z]; grind)
  have na : nu ct a ≠ 0 := fun z => ha0 ((nu_zero K).mp z)
  have nb : nu ct b ≠ 0 := fun z => hb0 ((nu_zero K).mp z)
  have hone : (1 : T) ≠ 0 := fun z => by
    have := p_one K (S := T) 0
    rw [z, p_zero K, if_pos rfl] at this
    exact hF.1 this.symm
  have hcop : ∀ x y : T, x ≠ 0 → dv (x * y) f → cop x y := fun x y hx hxy => no_cop hE hone hx (fun σ hσ h1 h2 => by
    obtain ⟨u, hu⟩ := h1
    obtain ⟨v, hv⟩ := h2
    obtain ⟨w, hw⟩ := hxy
    exact hsq σ hσ ⟨u * v * w, by rw [hw, hu, hv]; grind⟩)
  -- the list of all pieces, one of them parted
  obtain ⟨Mx, hMx⟩ : ∃ Mx : List T, Mx = a :: b :: ((List.range m).filter (fun i => decide (i ≠ j))).map q := ⟨_, rfl⟩
  have hpq : ∀ i, i < m → i ≠ j → dv (q j * q i) f := fun i hi hne => by
    rw [← hpd]
    rcases Nat.lt_or_ge i j with z | z
    · have := pdn_two q z hj
      rw [show q j * q i = q i * q j by grind]; exact this
    · exact pdn_two q (by omega) hi
  have hpair : Mx.Pairwise cop := by
    rw [hMx, List.pairwise_cons, List.pairwise_cons]
    refine ⟨fun x hx => ?_, fun x hx => ?_, ?_⟩
    · rcases List.mem_cons.mp hx with z | z
      · rw [z]; exact hcop a b ha0 (by rw [← hab]; exact hqf j hj)
      · obtain ⟨i, hi, e⟩ := List.mem_map.mp z
        rw [List.mem_filter, List.mem_range] at hi
        have hne : i ≠ j := of_decide_eq_true hi.2
        rw [← e]
        exact hcop a (q i) ha0 (dv_trans ⟨b, by rw [hab]; grind⟩ (hpq i hi.1 hne))
    · obtain ⟨i, hi, e⟩ := List.mem_map.mp hx
      rw [List.mem_filter, List.mem_range] at hi
      have hne : i ≠ j := of_decide_eq_true hi.2
      rw [← e]
      exact hcop b (q i) hb0 (dv_trans ⟨a, by rw [hab]; grind⟩ (hpq i hi.1 hne))
    · rw [List.pairwise_map]
      refine List.Pairwise.filter _ ?_
      refine List.Pairwise.imp_of_mem (R := fun a b => a < b) (fun {x y} hx hy hxy => ?_) List.pairwise_lt_range
      have hy' := List.mem_range.mp hy
      exact hcop (q x) (q y) (hq0 x (by omega)) (by rw [← hpd]; exact pdn_two q hxy hy')
  have hlen : Mx.length = m + 1 := by
    rw [hMx, List.length_cons, List.length_cons, List.length_map]
    have : ((List.range m).filter (fun i => decide (i ≠ j))).length + 1 = m := by
      clear hpair hMx hpq hL hm hpd hq hqf hq0
      induction m with
      | zero => omega
      | succ m ih =>
        rw [List.range_succ, List.filter_append, List.length_append]
        rcases Nat.lt_or_ge j m with z | z
        · have h1 := ih z
          rw [List.filter_cons_of_pos (by simp; omega), List.filter_nil]
          simp only [List.length_cons, List.length_nil]
          omega
        · have e : j = m := by omega
          subst e
          rw [List.filter_cons_of_neg (by simp), List.filter_nil, List.filter_eq_self.mpr (fun x hx => by have := List.mem_range.mp hx; simp; omega), List.length_range]
          rfl
    omega
  have hdiv : ∀ x ∈ Mx, ∃ π ∈ L, dv π x := fun x hx => by
    have hx2 : 2 ≤ nu ct x ∧ dv x f := by
      rw [hMx] at hx
      rcases List.mem_cons.mp hx with z | z
      · rw [z]; exact ⟨by omega, dv_trans ⟨b, hab⟩ (hqf j hj)⟩
      · rcases List.mem_cons.mp z with y | y
        · rw [y]; exact ⟨by omega, dv_trans ⟨a, by rw [hab]; grind⟩ (hqf j hj)⟩
        · obtain ⟨i, hi, e⟩ := List.mem_map.mp y
          rw [List.mem_filter, List.mem_range] at hi
          rw [← e]; exact ⟨hq i hi.1, hqf i hi.1⟩
    obtain ⟨ρ, h1, h2⟩ := irr_ex hE _ x (Nat.le_refl _) hx2.1
    obtain ⟨π, h3, h4⟩ := hL.2.2 ρ h1 (dv_trans h2 hx2.2)
    exact ⟨π, h3, dv_trans h4 h2⟩
  have := cnt_le hE L Mx (fun π hπ => (hL.1 π hπ).1) hpair hdiv
  omega
theorem c_split {R T : Type} [Lean.Grind.CommRing R] [Lean.Grind.CommRing T] {ct : T → Nat → R} (K : isPol ct) {p : Nat} (hp : isZp R p) {φ : Int → R} (hφ : isRed φ p) (hlo : 16777216 ≤ p) (hhi : p ≤ 16778000) {f : T} (hN2 : 2 ≤ nu ct f) (hf1 : ct f (nu ct f - 1) = 1) (hsq : sqf (nu ct) f) {B : Nat → T} {k : Nat} (hk : k ≤ 10) (hk1 : 1 ≤ k) (hIsB : isB K p f B k) (hB0 : B 0 = 1) {M : MI} (hM : ok M) (hmp : M.1 1 0 = p) {a : Nat} (ha : row a) (ha2 : ¬ (129 ≤ a ∧ a < 159)) (hf : CP ct φ p M a f) (hB : ∀ t, t < k → CP ct φ p M (149 + t) (B t)) (h42 : M.2 4 2 = k) {n : Nat} (hn : 18446744073709551616 ≤ n) :
    ∃ (M' : MI) (m : Nat) (q : Nat → T), f_X6_split n a M = some M' ∧ ok M' ∧ chS (RSY ++ [129, 130, 131, 132, 133, 134, 135, 136, 137, 138]) M M' ∧ M'.2 4 2 = k ∧ PCc ct φ p M' m q ∧ pdn q m = f ∧ (∀ j, j < m → irr (nu ct) (q j)) ∧ m ≤ 10 := by
  have hF := hp.2.2.1
  have hE := pol_EU K hF
  have hf0 : f ≠ 0 := fun z => by rw [(nu_zero K).mpr z] at hN2; omega
  have hone : (1 : T) ≠ 0 := fun z => by
    have := p_one K (S := T) 0
    rw [z, p_zero K, if_pos rfl] at this
    exact hF.1 this.symm
  have r129 : row (129 + 0) := row_i (by omega)
  obtain ⟨M1, e1, hok1, hc1, cf1⟩ := c_copyP hM ha r129 hf
  obtain ⟨M2, hM2⟩ : ∃ M2, M2 = oI M1 4 1 1 := ⟨_, rfl⟩
  have hS0 : SIc ct φ p M f B k M2 1 (fun _ => f) := by
    rw [hM2]
    refine ⟨ok_oI hok1 (by omega), chS_mono (chS_trans (chS_of hc1) (show chS [] M1 (oI M1 4 1 1) from ⟨fun _ _ _ => rfl, fun k i _ hk => by rw [oI_2, if_neg (fun z => hk ⟨z.1, Or.inl z.2⟩)]⟩)) (fun x hx => by simp [RSY] at hx ⊢; omega), by rw [oI_2, if_neg (by omega), hc1.1]; exact h42, ⟨by rw [oI_2, if_pos ⟨rfl, rfl⟩]; rfl, fun j hj => ?_⟩, by simp only [pdn]; grind⟩
    rw [show j = 0 by omega]
    exact ⟨cf1, hf1, hN2⟩
  obtain ⟨L, hL⟩ := FL_ex hE _ f (Nat.le_refl _) hf0
  have hkL := isB_cnt K hp hN2 hIsB hL
  -- never more pieces than factors
  have hle : ∀ {M' m q}, SIc ct φ p M f B k M' m q → m ≤ L.length := fun {M' m q} hS => by
    obtain ⟨-, -, -, hPC, hpd⟩ := hS
    have hq0 : ∀ i, i < m → q i ≠ 0 := fun i hi z => by have := (hPC.2 i hi).2.2; rw [(nu_zero K).mpr z] at this; omega
    have hpair : ((List.range m).map q).Pairwise cop := by
      rw [List.pairwise_map]
      refine List.Pairwise.imp_of_mem (R := fun a b => a < b) (fun {x y} hx hy hxy => ?_) List.pairwise_lt_range
      have hy' := List.mem_range.mp hy
      refine no_cop hE hone (hq0 x (by omega)) (fun σ hσ h1 h2 => ?_)
      obtain ⟨u, hu⟩ := h1
      obtain ⟨v, hv⟩ := h2
      have h3 := pdn_two q hxy hy'
      rw [hpd] at h3
      obtain ⟨w, hw⟩ := h3
      exact hsq σ hσ ⟨u * v * w, by rw [hw, hu, hv]; grind⟩
    have := cnt_le hE L ((List.range m).map q) (fun π hπ => (hL.1 π hπ).1) hpair (fun x hx => by
      obtain ⟨i, hi, e⟩ := List.mem_map.mp hx
      rw [List.mem_range] at hi
      obtain ⟨ρ, h1, h2⟩ := irr_ex hE _ (q i) (Nat.le_refl _) (hPC.2 i hi).2.2
      obtain ⟨π, h3, h4⟩ := hL.2.2 ρ h1 (dv_trans h2 (by rw [← hpd]; exact pdn_mem q hi))
      exact ⟨π, h3, by rw [← e]; exact dv_trans h4 h2⟩)
    rw [List.length_map, List.length_range] at this
    exact this
  obtain ⟨M19, hLp, m, q, hS, hge⟩ := lp_do (step := l_X6_split_17 n) (fun st => ∃ (s m : Nat) (q : Nat → T), st.2 = s ∧ s ≤ 1000000 ∧ SIc ct φ p M f B k st.1 m q ∧ ∀ s', s' < s → ∀ i, 1 ≤ i → i < k → ∀ j, j < m → Okp K p (B i) s' (q j)) (fun st => ((1000001 : Int) - st.2).toNat) (fun M' => ∃ m q, SIc ct φ p M f B k M' m q ∧ k ≤ m) (fun st hst => by
    obtain ⟨Ma, y⟩ := st
    obtain ⟨s, m, q, hy, hs, hS, hO⟩ := hst
    dsimp only at hy hS
    subst hy
    obtain ⟨hm10, -⟩ := SIc_m K hF hf.2 hS
    unfold l_X6_split_17
    dsimp only
    rw [gI_s (by omega) (by omega), bs]
    by_cases hend : (1000000 : Int) ≤ s
    · rw [if_pos hend]
      refine Or.inl ⟨_, rfl, m, q, hS, ?_⟩
      -- all factors lie apart
      apply Classical.byContradiction
      intro hlt
      obtain ⟨-, -, -, hPC, hpd⟩ := id hS
      have hin : ∀ t, ∃ j, t < L.length → j < m ∧ dv (L.getD t 0) (q j) := fun t => by
        by_cases ht : t < L.length
        · have hmem : L.getD t 0 ∈ L := by
            rw [List.getD_eq_getElem?_getD, List.getElem?_eq_getElem ht]
            exact List.getElem_mem ht
          obtain ⟨i1, d1⟩ := hL.1 _ hmem
          rw [← hpd] at d1
          obtain ⟨j, hj, e⟩ := irr_pdn hE i1 hone d1
          exact ⟨j, fun _ => ⟨hj, e⟩⟩
        · exact ⟨0, fun h => absurd h ht⟩
      obtain ⟨i, j, hij, hj, he⟩ := php m L.length (fun t => Classical.choose (hin t)) (by omega) (fun t ht => (Classical.choose_spec (hin t) ht).1)
      have hi1 := Classical.choose_spec (hin i) (by omega)
      have hj1 := Classical.choose_spec (hin j) hj
      have e0 : Classical.choose (hin i) = Classical.choose (hin j) := he
      rw [← e0] at hj1
      obtain ⟨l, hl⟩ : ∃ l, Classical.choose (hin i) = l := ⟨_, rfl⟩
      rw [hl] at hi1 hj1
      have hgi : L.getD i 0 = L[i]'(by omega) := by rw [List.getD_eq_getElem?_getD, List.getElem?_eq_getElem (by omega)]; rfl
      have hgj : L.getD j 0 = L[j]'hj := by rw [List.getD_eq_getElem?_getD, List.getElem?_eq_getElem hj]; rfl
      have hmi : L.getD i 0 ∈ L := by rw [hgi]; exact List.getElem_mem _
      have hmj : L.getD j 0 ∈ L := by rw [hgj]; exact List.getElem_mem _
      have hcop : cop (L.getD i 0) (L.getD j 0) := by
        rw [hgi, hgj]
        exact List.pairwise_iff_getElem.mp hL.2.1 i j (by omega) hj hij
      have hnd : ¬ dv (L.getD i 0) (L.getD j 0) := cop_not hE (hL.1 _ hmi).1 hcop (dv_refl _)
      obtain ⟨t, c, d, ht, hcd, hc, hd⟩ := isB_sep K hp hf0 hIsB (hL.1 _ hmi).1 (hL.1 _ hmj).1 (hL.1 _ hmi).2 (hL.1 _ hmj).2 hnd
      have ht1 : 1 ≤ t := by
        rcases Nat.eq_zero_or_pos t with z | z
        · exfalso
          rw [z, hB0, ← mo_one K] at hc hd
          have c1 := cst_eq K hF (hL.1 _ hmi).1 hc (c := c) (d := 1) (by rw [show mo K (1 : R) 0 - mo K 1 0 = 0 by grind]; exact dv_zero _)
          have d1 := cst_eq K hF (hL.1 _ hmj).1 hd (c := d) (d := 1) (by rw [show mo K (1 : R) 0 - mo K 1 0 = 0 by grind]; exact dv_zero _)
          exact hcd (by rw [c1, d1])
        · exact z
      obtain ⟨s', hs', hns⟩ := shifts hp hlo hhi hcd
      exact hns (hO s' (by omega) t ht1 ht l hi1.1 _ _ (hL.1 _ hmi).1 (hL.1 _ hmj).1 hi1.2 hj1.2 c d hc hd)
    · rw [if_neg hend, hS.2.2.2.1.1, hS.2.2.1, gI_s (by omega) (by omega), bs]
      by_cases hdone : (k : Int) ≤ m
      · rw [if_pos hdone]
        exact Or.inl ⟨_, rfl, m, q, hS, by omega⟩
      · obtain ⟨Mb, m2, q2, eb, hS2, hl2, hO2⟩ := c_splitI K hp hφ (by omega) (by omega) hf.2 hsq (s := s) hk hk1 (by omega) hmp hB hS hn
        rw [if_neg hdone, eb, bs]
        refine Or.inr ⟨_, rfl, ⟨s + 1, m2, q2, by dsimp only; omega, by omega, hS2, fun s' hs' i h1 h2 j hj => ?_⟩, by dsimp only; omega⟩
        rcases Nat.lt_or_ge s' s with z | z
        · obtain ⟨l, hl', d⟩ := hl2 j hj
          exact Okp_dv K d (hO s' z i h1 h2 l hl')
        · rw [show s' = s by omega]; exact hO2 i h1 h2 j hj) n (M2, 0) ⟨0, 1, fun _ => f, rfl, by omega, hS0, fun s' hs' => absurd hs' (by omega)⟩ (by dsimp only; omega)
  have hmL : m = L.length := by have := hle hS; omega
  obtain ⟨hm10, -⟩ := SIc_m K hF hf.2 hS
  obtain ⟨h1, h2, h3, h4, h5⟩ := hS
  refine ⟨M19, m, q, ?_, h1, h2, h3, h4, h5, pcs_irr K hF hf0 hsq hL h5 (fun j hj => (h4.2 j hj).2.2) hmL, hm10⟩
  unfold f_X6_split
  have e0 : odA 20 0 = some (129 + 0) := oA20 (k := 0) rfl (by omega)
  rw [e0, bs, e1, bs]
  show Option.bind (some (oI M1 4 1 1)) _ = _
  rw [bs, ← hM2, hLp, bs]
end MClsB
