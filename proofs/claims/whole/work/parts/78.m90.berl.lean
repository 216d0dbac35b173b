/-! Berlekamp: as many fixed rows as factors -/
section MBerl
theorem no_cop {S : Type} [Lean.Grind.CommRing S] {N : S → Nat} (E : EU S N) (h0 : (1 : S) ≠ 0) {a b : S} (ha : a ≠ 0) (h : ∀ σ, irr N σ → dv σ a → ¬ dv σ b) : cop a b := by
  obtain ⟨g, u, v, hg, h1, h2⟩ := eu_gcd E a b
  have hg0 : g ≠ 0 := by intro q; apply ha; obtain ⟨c, hc⟩ := h1; rw [hc, q]; grind
  have hgN : N g ≠ 0 := fun q => hg0 ((E.1 g).mp q)
  rcases Nat.lt_or_ge 1 (N g) with q | q
  · obtain ⟨σ, hσ, hσg⟩ := irr_ex E (N g) g (Nat.le_refl _) q
    exact absurd (dv_trans hσg h2) (h σ hσ (dv_trans hσg h1))
  · obtain ⟨b', hb⟩ := eu_unit E (show N g = 1 by omega)
    exact ⟨b' * u, b' * v, by grind⟩
theorem cop_not {S : Type} [Lean.Grind.CommRing S] {N : S → Nat} (E : EU S N) {σ a b : S} (hσ : irr N σ) (h : cop a b) (h1 : dv σ a) : ¬ dv σ b := by
  intro h2
  obtain ⟨u, v, huv⟩ := h
  have h3 : dv σ 1 := by rw [← huv]; exact dv_add (dv_mull u h1) (dv_mull v h2)
  have h0 : (1 : S) ≠ 0 := fun q => irr_ne E hσ (by have : σ = σ * 1 := by grind
                                                    rw [this, q]; grind)
  have := eu_le E h3 h0
  rw [eu_one E h0] at this
  have := hσ.1
  omega
theorem cnt_one {S : Type} [Lean.Grind.CommRing S] {N : S → Nat} (E : EU S N) {π : S} (hπ : irr N π) : ∀ (M : List S), M.Pairwise cop → M.length ≤ (M.filter (fun m => @decide (¬ dv π m) (Classical.propDecidable _))).length + 1
  | [], _ => by simp
  | m :: M, h => by
    have h1 := List.pairwise_cons.mp h
    by_cases hm : dv π m
    · have h2 : M.filter (fun m => @decide (¬ dv π m) (Classical.propDecidable _)) = M := List.filter_eq_self.mpr (fun a ha => by
        have := cop_not E hπ (h1.1 a ha) hm
        exact @decide_eq_true _ (Classical.propDecidable _) this)
      have h3 : (m :: M).filter (fun m => @decide (¬ dv π m) (Classical.propDecidable _)) = M.filter (fun m => @decide (¬ dv π m) (Classical.propDecidable _)) := List.filter_cons_of_neg (by simp [hm])
      rw [h3, h2]; simp
    · have h3 : (m :: M).filter (fun m => @decide (¬ dv π m) (Classical.propDecidable _)) = m :: M.filter (fun m => @decide (¬ dv π m) (Classical.propDecidable _)) := List.filter_cons_of_pos (by simp [hm])
      rw [h3]
      have := cnt_one E hπ M h1.2
      simp only [List.length_cons]; omega
theorem cnt_le {S : Type} [Lean.Grind.CommRing S] {N : S → Nat} (E : EU S N) : ∀ (L M : List S), (∀ π ∈ L, irr N π) → M.Pairwise cop → (∀ m ∈ M, ∃ π ∈ L, dv π m) → M.length ≤ L.length
  | [], M, _, _, h => by
    cases M with
    | nil => simp
    | cons m M => obtain ⟨π, h1, _⟩ := h m List.mem_cons_self; simp at h1
  | π :: L, M, h0, h1, h2 => by
    have h3 := cnt_one E (h0 π List.mem_cons_self) M h1
    have h4 := cnt_le E L (M.filter (fun m => @decide (¬ dv π m) (Classical.propDecidable _))) (fun ρ hρ => h0 ρ (List.mem_cons_of_mem _ hρ)) (h1.filter _) (fun m hm => by
      have h5 := List.mem_filter.mp hm
      obtain ⟨ρ, h6, h7⟩ := h2 m h5.1
      rcases List.mem_cons.mp h6 with h8 | h8
      · have := @of_decide_eq_true _ (Classical.propDecidable _) h5.2
        rw [h8] at h7
        exact absurd h7 this
      · exact ⟨ρ, h8, h7⟩)
    simp only [List.length_cons]; omega
/-- the highest power -/
theorem max_pw {S : Type} [Lean.Grind.CommRing S] {N : S → Nat} (E : EU S N) {π : S} (hπ : irr N π) : ∀ (n : Nat) (f : S), N f ≤ n → f ≠ 0 → ∃ (a : Nat) (g : S), f = π ^ a * g ∧ ¬ dv π g
  | 0, f, h, h1 => absurd ((E.1 f).mp (by omega)) h1
  | n + 1, f, h, h1 => by
    by_cases hd : dv π f
    · obtain ⟨c, hc⟩ := hd
      have hc0 : c ≠ 0 := by intro q; apply h1; rw [hc, q]; grind
      have h2 := E.2.1 π c (irr_ne E hπ) hc0
      rw [← hc] at h2
      have := hπ.1
      obtain ⟨a, g, h3, h4⟩ := max_pw E hπ n c (by omega) hc0
      exact ⟨a + 1, g, by rw [hc, h3, pw_succ]; grind, h4⟩
    · exact ⟨0, f, by rw [pw_zero]; grind, hd⟩
/-- the row that is 1 at one factor and 0 at the others -/
theorem idem {R S : Type} [Lean.Grind.CommRing R] [Lean.Grind.CommRing S] {co : S → Nat → R} (P : isPol co) {p : Nat} (h : isZp R p) {f : S} (hf : f ≠ 0) {π : S} (hπ : irr (nu co) π) : ∃ e, nu co e < nu co f ∧ dv f (e ^ p - e) ∧ (dv π f → dv π (e - 1)) ∧ ∀ ρ, irr (nu co) ρ → dv ρ f → ¬ dv π ρ → dv ρ e := by
  have E := pol_EU P h.2.2.1
  obtain ⟨a, g, hfg, hg⟩ := max_pw E hπ (nu co f) f (Nat.le_refl _) hf
  have hc : cop (π ^ a) g := cop_symm (cop_pw (cop_symm (by rcases irr_or E hπ g with z | z
                                                            · exact absurd z hg
                                                            · exact z)) a)
  obtain ⟨u, w, huw⟩ := hc
  obtain ⟨q, r, hqr, hr⟩ := E.2.2 (w * g) f hf
  have hpw : ∀ n : Nat, 1 ≤ n → dv f (r ^ n - r) := by
    intro n hn
    have h2 : dv f (r * r - r) := ⟨-(u * w) + q * q * f - 2 * q * (w * g) + q, by
      have e1 : r = w * g - q * f := by grind
      rw [e1, hfg]
      have e2 : w * g = 1 - u * π ^ a := by grind
      grind⟩
    induction n with
    | zero => omega
    | succ n ih =>
      rcases Nat.eq_zero_or_pos n with z | z
      · rw [z, pw1, show r - r = 0 by grind]; exact dv_zero f
      · rw [pw_succ, show r ^ n * r - r = (r ^ n - r) * r + (r * r - r) by grind]
        exact dv_add (dv_mulr r (ih (by omega))) h2
  refine ⟨r, hr, hpw p (by have := h.1.1; omega), fun hd => ?_, fun ρ hρ hρf hne => ?_⟩
  · have ha : a ≠ 0 := by
      intro z
      rw [z, pw_zero] at hfg
      exact hg (by rw [show g = f by grind]; exact hd)
    obtain ⟨b, rfl⟩ : ∃ b, a = b + 1 := ⟨a - 1, by omega⟩
    have e1 : r - 1 = -(u * π ^ (b + 1)) - q * f := by grind
    rw [e1, pw_succ]
    obtain ⟨c, hc⟩ := hd
    exact ⟨-(u * π ^ b) - q * c, by rw [hc]; grind⟩
  · have hρg : dv ρ g := by
      rw [hfg] at hρf
      rcases irr_dv E hρ hρf with z | z
      · exact absurd (irr_sym E hρ hπ (irr_pw E hρ z)) hne
      · exact z
    have e1 : r = w * g - q * f := by grind
    rw [e1]
    exact dv_sub (dv_mull w hρg) (dv_mull q hρf)
theorem fix_zero {R S : Type} [Lean.Grind.CommRing R] [Lean.Grind.CommRing S] {co : S → Nat → R} (P : isPol co) {p : Nat} (h : isZp R p) {f v : S} (hf : f ≠ 0) {L : List S} (hL : FL (nu co) f L) (hv : dv f (v ^ p - v)) (hz : ∀ π ∈ L, dv π v) : dv f v := by
  have E := pol_EU P h.2.2.1
  have hp := h.1.1
  have h0 : (1 : S) ≠ 0 := fun q => hf (by have : f = f * 1 := by grind
                                           rw [this, q]; grind)
  have e1 : v ^ p - v = (v ^ (p - 1) - 1) * v := by
    obtain ⟨m, rfl⟩ : ∃ m, p = m + 1 := ⟨p - 1, by omega⟩
    rw [pw_succ, Nat.add_sub_cancel]; grind
  have hc : cop f (v ^ (p - 1) - 1) := no_cop E h0 hf (fun σ hσ hσf hσv => by
    obtain ⟨π, hπ, hπσ⟩ := hL.2.2 σ hσ hσf
    have hσv2 : dv σ v := dv_trans (irr_sym E (hL.1 π hπ).1 hσ hπσ) (hz π hπ)
    have h3 : dv σ 1 := by
      obtain ⟨m, hm⟩ : ∃ m, p - 1 = m + 1 := ⟨p - 2, by omega⟩
      rw [hm, pw_succ] at hσv
      have := dv_sub (dv_mull (v ^ m) hσv2) hσv
      rw [show v ^ m * v - (v ^ m * v - 1) = 1 by grind] at this
      exact this
    have := eu_le E h3 h0
    rw [eu_one E h0] at this
    have := hσ.1
    omega)
  rw [e1] at hv
  exact cop_dv hc hv
theorem fix_sm {R S : Type} [Lean.Grind.CommRing R] [Lean.Grind.CommRing S] {co : S → Nat → R} (P : isPol co) {p : Nat} (h : isZp R p) {f : S} {B : Nat → S} (x : Nat → R) : ∀ {k : Nat}, (∀ i, i < k → dv f (B i ^ p - B i)) → dv f ((sm (fun i => mo P (x i) 0 * B i) k) ^ p - sm (fun i => mo P (x i) 0 * B i) k)
  | 0, _ => by
    simp only [sm]
    rw [pw_z (by have := h.1.1; omega), show (0 : S) - 0 = 0 by grind]; exact dv_zero f
  | k + 1, hB => by
    rw [sm_succ, frob h.1 (nt_pS P h), pw_mm, mo_pw, Nat.zero_mul, fermat h]
    have h1 := fix_sm P h x (fun i hi => hB i (by omega) : ∀ i, i < k → dv f (B i ^ p - B i))
    have h2 := dv_mull (mo P (x k) 0) (hB k (by omega))
    generalize sm (fun i => mo P (x i) 0 * B i) k = s at *
    rw [show s ^ p + mo P (x k) 0 * B k ^ p - (s + mo P (x k) 0 * B k) = (s ^ p - s) + mo P (x k) 0 * (B k ^ p - B k) by grind]
    exact dv_add h1 h2
/-- B: a basis of the fixed rows -/
def isB {R S : Type} [Lean.Grind.CommRing R] [Lean.Grind.CommRing S] {co : S → Nat → R} (P : isPol co) (p : Nat) (f : S) (B : Nat → S) (k : Nat) : Prop := (∀ i, i < k → nu co (B i) < nu co f ∧ dv f (B i ^ p - B i)) ∧ (∀ v, nu co v < nu co f → dv f (v ^ p - v) → ∃ x : Nat → R, v = sm (fun i => mo P (x i) 0 * B i) k) ∧ (∀ x : Nat → R, sm (fun i => mo P (x i) 0 * B i) k = 0 → ∀ i, i < k → x i = 0)
theorem sm_dv {S : Type} [Lean.Grind.CommRing S] {m : S} {F G : Nat → S} : ∀ {k : Nat}, (∀ i, i < k → dv m (F i - G i)) → dv m (sm F k - sm G k)
  | 0, _ => by simp only [sm]; rw [show (0 : S) - 0 = 0 by grind]; exact dv_zero m
  | k + 1, h => by
    rw [sm_succ, sm_succ, show sm F k + F k - (sm G k + G k) = (sm F k - sm G k) + (F k - G k) by grind]
    exact dv_add (sm_dv (fun i hi => h i (by omega))) (h k (by omega))
theorem mo_sm {R S : Type} [Lean.Grind.CommRing R] [Lean.Grind.CommRing S] {co : S → Nat → R} (P : isPol co) (F : Nat → R) : ∀ (k : Nat), sm (fun i => mo P (F i) 0) k = mo P (sm F k) 0
  | 0 => by simp only [sm]; exact (mo_zero P 0).symm
  | k + 1 => by rw [sm_succ, sm_succ, mo_add, mo_sm P F k]
theorem sm_N {R S : Type} [Lean.Grind.CommRing R] [Lean.Grind.CommRing S] {co : S → Nat → R} (P : isPol co) {B : Nat → S} {n : Nat} (x : Nat → R) : ∀ {k : Nat}, (∀ i, i < k → nu co (B i) < n) → 1 ≤ n → nu co (sm (fun i => mo P (x i) 0 * B i) k) < n
  | 0, _, hn => by simp only [sm]; rw [(nu_zero P).mpr rfl]; omega
  | k + 1, h, hn => by
    have h1 := sm_N P x (fun i hi => h i (by omega) : ∀ i, i < k → nu co (B i) < n) hn
    have h2 := h k (by omega)
    have h3 : nu co (sm (fun i => mo P (x i) 0 * B i) (k + 1)) ≤ n - 1 := nu_le P (fun i hi => by
      rw [sm_succ, p_add P, nu_hi P _ (by omega), mo_0 P, nu_hi P (B k) (by omega)]; grind)
    omega
theorem isB_cnt {R S : Type} [Lean.Grind.CommRing R] [Lean.Grind.CommRing S] {co : S → Nat → R} (P : isPol co) {p : Nat} (h : isZp R p) {f : S} (hf : 2 ≤ nu co f) {B : Nat → S} {k : Nat} (hB : isB P p f B k) {L : List S} (hL : FL (nu co) f L) : k = L.length := by
  have hF := h.2.2.1
  have hD := isF_D hF
  have E := pol_EU P hF
  have hf0 : f ≠ 0 := fun q => by rw [(nu_zero P).mpr q] at hf; omega
  rcases Nat.lt_trichotomy k L.length with q | q | q
  · exfalso
    -- more factors than rows
    have hid : ∀ j : Nat, ∃ x : Nat → R, j < L.length → dv (L[j]?.getD 1) (sm (fun i => mo P (x i) 0 * B i) k - 1) ∧ ∀ i, i < L.length → i ≠ j → dv (L[i]?.getD 1) (sm (fun i => mo P (x i) 0 * B i) k) := by
      intro j
      by_cases hj : j < L.length
      · have hm : L[j]?.getD 1 ∈ L := by rw [List.getElem?_eq_getElem hj]; exact List.getElem_mem hj
        obtain ⟨e, he1, he2, he3, he4⟩ := idem P h hf0 (hL.1 _ hm).1
        obtain ⟨x, hx⟩ := hB.2.1 e he1 he2
        refine ⟨x, fun _ => ⟨by rw [← hx]; exact he3 (hL.1 _ hm).2, fun i hi hne => ?_⟩⟩
        have hmi : L[i]?.getD 1 ∈ L := by rw [List.getElem?_eq_getElem hi]; exact List.getElem_mem hi
        rw [← hx]
        refine he4 _ (hL.1 _ hmi).1 (hL.1 _ hmi).2 ?_
        have hcop : cop (L[j]?.getD 1) (L[i]?.getD 1) := by
          have hpw := List.pairwise_iff_getElem.mp hL.2.1
          rw [List.getElem?_eq_getElem hj, List.getElem?_eq_getElem hi]
          rcases Nat.lt_or_gt_of_ne hne with z | z
          · exact cop_symm (hpw i j hi hj z)
          · exact hpw j i hj hi z
        exact fun z => cop_not E (hL.1 _ hm).1 hcop (dv_refl _) z
      · exact ⟨fun _ => 0, fun z => absurd z hj⟩
    obtain ⟨y, ⟨j1, hj1, hy1⟩, _, hy3⟩ := lin (S := R) hD hF.1 (W := fun _ _ => True) trivial trivial (fun _ _ _ _ _ _ => trivial) (fun _ _ _ _ _ => trivial) (fun _ _ _ _ _ => trivial) k L.length 0 (fun i j => Classical.choose (hid j) i) q (fun _ _ _ _ => trivial)
    have hz : sm (fun j => mo P (y j) 0 * sm (fun i => mo P (Classical.choose (hid j) i) 0 * B i) k) L.length = 0 := by
      have e1 : sm (fun j => mo P (y j) 0 * sm (fun i => mo P (Classical.choose (hid j) i) 0 * B i) k) L.length = sm (fun j => sm (fun i => mo P (y j) 0 * (mo P (Classical.choose (hid j) i) 0 * B i)) k) L.length := sm_congr (fun j _ => (sm_mul _ _ _).symm)
      rw [e1, sm_swap]
      refine sm_zero (fun i hi => ?_)
      have e2 : sm (fun j => mo P (y j) 0 * (mo P (Classical.choose (hid j) i) 0 * B i)) L.length = sm (fun j => mo P (Classical.choose (hid j) i * y j) 0 * B i) L.length := sm_congr (fun j _ => by
        have : mo P (Classical.choose (hid j) i * y j) 0 = mo P (Classical.choose (hid j) i) 0 * mo P (y j) 0 := by rw [mo_mm]
        rw [this]; grind)
      rw [e2, sm_mulr, mo_sm, hy3 i hi, mo_zero]; grind
    have hm1 : L[j1]?.getD 1 ∈ L := by rw [List.getElem?_eq_getElem hj1]; exact List.getElem_mem hj1
    have hd : dv (L[j1]?.getD 1) (sm (fun j => mo P (y j) 0 * sm (fun i => mo P (Classical.choose (hid j) i) 0 * B i) k) L.length - sm (fun j => if j = j1 then mo P (y j1) 0 else 0) L.length) := sm_dv (fun j hj => by
      by_cases z : j = j1
      · rw [if_pos z, z]
        have := dv_mull (mo P (y j1) 0) ((Classical.choose_spec (hid j1)) hj1).1
        rw [show mo P (y j1) 0 * (sm (fun i => mo P (Classical.choose (hid j1) i) 0 * B i) k - 1) = mo P (y j1) 0 * sm (fun i => mo P (Classical.choose (hid j1) i) 0 * B i) k - mo P (y j1) 0 by grind] at this
        exact this
      · rw [if_neg z]
        have := dv_mull (mo P (y j) 0) (((Classical.choose_spec (hid j)) hj).2 j1 hj1 (fun w => z w.symm))
        rw [show ∀ a : S, a - 0 = a from fun a => by grind]
        exact this)
    rw [hz, sm_one (k := j1) hj1 (fun j _ hne => if_neg hne), if_pos rfl] at hd
    refine unit_no P hF (hL.1 _ hm1).1 hy1 ?_
    obtain ⟨c, hc⟩ := hd
    exact ⟨-c, by grind⟩
  · exact q
  · exfalso
    -- more rows than factors
    have hcs : ∀ i j : Nat, ∃ c : R, i < k → j < L.length → dv (L[j]?.getD 1) (B i - mo P c 0) := by
      intro i j
      by_cases hi : i < k
      · by_cases hj : j < L.length
        · have hm : L[j]?.getD 1 ∈ L := by rw [List.getElem?_eq_getElem hj]; exact List.getElem_mem hj
          obtain ⟨c, hc⟩ := berl P h (hL.1 _ hm).1 (dv_trans (hL.1 _ hm).2 (hB.1 i hi).2)
          exact ⟨c, fun _ _ => hc⟩
        · exact ⟨0, fun _ z => absurd z hj⟩
      · exact ⟨0, fun z => absurd z hi⟩
    obtain ⟨x, ⟨i1, hi1, hx1⟩, _, hx3⟩ := lin (S := R) hD hF.1 (W := fun _ _ => True) trivial trivial (fun _ _ _ _ _ _ => trivial) (fun _ _ _ _ _ => trivial) (fun _ _ _ _ _ => trivial) L.length k 0 (fun j i => Classical.choose (hcs i j)) q (fun _ _ _ _ => trivial)
    have hv := fix_sm P h x (fun i hi => (hB.1 i hi).2)
    have hdv : dv f (sm (fun i => mo P (x i) 0 * B i) k) := fix_zero P h hf0 hL hv (fun π hπ => by
      obtain ⟨j, hj, rfl⟩ := List.getElem_of_mem hπ
      have h1 : dv (L[j]) (sm (fun i => mo P (x i) 0 * B i) k - sm (fun i => mo P (Classical.choose (hcs i j) * x i) 0) k) := sm_dv (fun i hi => by
        have h2 := (Classical.choose_spec (hcs i j)) hi hj
        obtain ⟨c0, hc0⟩ : ∃ c0, c0 = Classical.choose (hcs i j) := ⟨_, rfl⟩
        rw [← hc0] at h2 ⊢
        rw [List.getElem?_eq_getElem hj] at h2
        have h2 : dv (L[j]) (B i - mo P c0 0) := h2
        have h3 := dv_mull (mo P (x i) 0) h2
        have e : mo P (c0 * x i) 0 = mo P (x i) 0 * mo P c0 0 := by rw [mo_mm, Nat.add_zero, show c0 * x i = x i * c0 by grind]
        rw [e]
        rw [show mo P (x i) 0 * B i - mo P (x i) 0 * mo P c0 0 = mo P (x i) 0 * (B i - mo P c0 0) by grind]
        exact h3)
      rw [mo_sm, hx3 j hj, mo_zero] at h1
      rw [show ∀ a : S, a - 0 = a from fun a => by grind] at h1
      exact h1)
    have hN := sm_N P x (fun i hi => (hB.1 i hi).1) (by omega)
    have hz : sm (fun i => mo P (x i) 0 * B i) k = 0 := by
      apply Classical.byContradiction
      intro hne
      have := eu_le E hdv hne
      omega
    exact hx1 (hB.2.2 x hz i1 hi1)
/-- two factors are parted by one of the rows -/
theorem isB_sep {R S : Type} [Lean.Grind.CommRing R] [Lean.Grind.CommRing S] {co : S → Nat → R} (P : isPol co) {p : Nat} (h : isZp R p) {f : S} (hf : f ≠ 0) {B : Nat → S} {k : Nat} (hB : isB P p f B k) {π ρ : S} (hπ : irr (nu co) π) (hρ : irr (nu co) ρ) (hπf : dv π f) (hρf : dv ρ f) (hne : ¬ dv π ρ) : ∃ i c d, i < k ∧ c ≠ d ∧ dv π (B i - mo P c 0) ∧ dv ρ (B i - mo P d 0) := by
  have hF := h.2.2.1
  obtain ⟨e, he1, he2, he3, he4⟩ := idem P h hf hπ
  obtain ⟨x, hx⟩ := hB.2.1 e he1 he2
  apply Classical.byContradiction
  intro hn
  have hcs : ∀ i : Nat, ∃ c : R, i < k → dv π (B i - mo P c 0) ∧ dv ρ (B i - mo P c 0) := by
    intro i
    by_cases hi : i < k
    · obtain ⟨c, hc⟩ := berl P h hπ (dv_trans hπf (hB.1 i hi).2)
      obtain ⟨d, hd⟩ := berl P h hρ (dv_trans hρf (hB.1 i hi).2)
      by_cases hcd : c = d
      · exact ⟨c, fun _ => ⟨hc, by rw [hcd]; exact hd⟩⟩
      · exact absurd ⟨i, c, d, hi, hcd, hc, hd⟩ hn
    · exact ⟨0, fun z => absurd z hi⟩
  have key : ∀ σ : S, (∀ i, i < k → dv σ (B i - mo P (Classical.choose (hcs i)) 0)) → dv σ (e - mo P (sm (fun i => x i * Classical.choose (hcs i)) k) 0) := by
    intro σ hσ
    rw [hx, ← mo_sm]
    refine sm_dv (fun i hi => ?_)
    have e1 : mo P (x i * Classical.choose (hcs i)) 0 = mo P (x i) 0 * mo P (Classical.choose (hcs i)) 0 := by rw [mo_mm]
    rw [e1, show mo P (x i) 0 * B i - mo P (x i) 0 * mo P (Classical.choose (hcs i)) 0 = mo P (x i) 0 * (B i - mo P (Classical.choose (hcs i)) 0) by grind]
    exact dv_mull _ (hσ i hi)
  have k1 := key π (fun i hi => ((Classical.choose_spec (hcs i)) hi).1)
  have k2 := key ρ (fun i hi => ((Classical.choose_spec (hcs i)) hi).2)
  generalize sm (fun i => x i * Classical.choose (hcs i)) k = s at *
  have h1 := he3 hπf
  have h2 := he4 ρ hρ hρf hne
  have h3 : dv π (mo P (1 - s) 0) := by
    have := dv_sub k1 h1
    rw [show e - mo P s 0 - (e - 1) = 1 - mo P s 0 by grind, ← mo_one P, mo_sub] at this
    exact this
  have h4 : dv ρ (mo P s 0) := by
    have := dv_sub h2 k2
    rw [show e - (e - mo P s 0) = mo P s 0 by grind] at this
    exact this
  have s1 : 1 - s = 0 := Classical.byContradiction (fun z => unit_no P hF hπ z h3)
  have s2 : s = 0 := Classical.byContradiction (fun z => unit_no P hF hρ z h4)
  exact hF.1 (by grind)
end MBerl
