/-! Stepanov, the end -/
section MStepB
theorem desc {R T : Type} [Lean.Grind.CommRing R] [Lean.Grind.CommRing T] {ct : T → Nat → R} (K : isPol ct) (hF : isF R) {f1 f2 : T} (h1 : irr (nu ct) f1) (hc : cop f1 f2) {c : R} (hc0 : c ≠ 0) : ∀ (n : Nat) (a b : T), nu ct a ≤ n → a * a * (f1 * f2) = b * b * mo K c 0 → a = 0
  | 0, a, b, hn, _ => (nu_zero K).mp (by omega)
  | n + 1, a, b, hn, he => by
    have E := pol_EU K hF
    apply Classical.byContradiction
    intro ha
    have hf0 := irr_ne E h1
    have h2 : dv f1 (b * b * mo K c 0) := by rw [← he]; exact ⟨a * a * f2, by grind⟩
    have h3 : dv f1 b := by
      rcases irr_dv E h1 h2 with h3 | h3
      · rcases irr_dv E h1 h3 with h4 | h4 <;> exact h4
      · exact absurd h3 (unit_no K hF h1 hc0)
    obtain ⟨b', hb⟩ := h3
    have h4 : a * a * f2 = f1 * (b' * b' * mo K c 0) := eu_cancel E hf0 (by rw [hb] at he; grind)
    have h5 : dv f1 (a * a) := cop_dv hc ⟨b' * b' * mo K c 0, by rw [← h4]; grind⟩
    have h6 : dv f1 a := by rcases irr_dv E h1 h5 with h4 | h4 <;> exact h4
    obtain ⟨a', ha'⟩ := h6
    have h7 : a' * a' * (f1 * f2) = b' * b' * mo K c 0 := eu_cancel E hf0 (by rw [← h4, ha']; grind)
    have ha0 : a' ≠ 0 := by intro q; apply ha; rw [ha', q]; grind
    have h8 := E.2.1 f1 a' hf0 ha0
    rw [← ha'] at h8
    have h9 := h1.1
    exact ha0 (desc K hF h1 hc hc0 n a' b' (by omega) h7)
theorem mul_low {R S : Type} [Lean.Grind.CommRing R] [Lean.Grind.CommRing S] {co : S → Nat → R} (P : isPol co) {a b : S} {j k : Nat} (ha : ∀ i, i < j → co a i = 0) (hb : ∀ i, i < k → co b i = 0) : co (a * b) (j + k) = co a j * co b k ∧ ∀ i, i < j + k → co (a * b) i = 0 := by
  constructor
  · rw [p_mul P, sm_one (k := j) (by omega) (fun i hi hne => ?_), show j + k - j = k by omega]
    rcases Nat.lt_or_ge i j with q | q
    · rw [ha i q]; grind
    · rw [hb (j + k - i) (by omega)]; grind
  · intro i hi
    rw [p_mul P]
    refine sm_zero (fun l hl => ?_)
    rcases Nat.lt_or_ge l j with q | q
    · rw [ha l q]; grind
    · rw [hb (i - l) (by omega)]; grind
theorem cop_pw {S : Type} [Lean.Grind.CommRing S] {a b : S} (h : cop a b) : ∀ (n : Nat), cop a (b ^ n)
  | 0 => ⟨0, 1, by rw [pw_zero]; grind⟩
  | n + 1 => by rw [pw_succ]; exact cop_mul (cop_pw h n) h
theorem nu_pw {R S : Type} [Lean.Grind.CommRing R] [Lean.Grind.CommRing S] {co : S → Nat → R} (P : isPol co) (hF : isF R) {a : S} (ha : a ≠ 0) : ∀ (n : Nat), nu co (a ^ n) = n * (nu co a - 1) + 1 ∧ a ^ n ≠ 0
  | 0 => by
    have h1 : nu co (1 : S) = 1 := nu_eq P (fun i hi => by rw [p_one P, if_neg (by omega)]) (fun _ => by rw [p_one P, if_pos (by omega)]; exact hF.1)
    rw [pw_zero, Nat.zero_mul]
    exact ⟨h1, fun q => by have := (nu_zero P).mpr q; omega⟩
  | n + 1 => by
    obtain ⟨h1, h2⟩ := nu_pw P hF ha n
    have h3 := nu_mul P (isF_D hF) h2 ha
    have h4 : nu co a ≠ 0 := fun q => ha ((nu_zero P).mp q)
    rw [pw_succ]
    have h5 : nu co (a ^ n * a) = (n + 1) * (nu co a - 1) + 1 := by rw [Nat.succ_mul]; omega
    exact ⟨h5, fun q => by have := (nu_zero P).mpr q; omega⟩
theorem stepanov {R T U : Type} [Lean.Grind.CommRing R] [Lean.Grind.CommRing T] [Lean.Grind.CommRing U] {ct : T → Nat → R} (K : isPol ct) {cu : U → Nat → T} (Q : isPol cu) {p : Nat} (h : isZp R p) (hp : 100000000000 < p) {f1 f2 : T} (h1 : irr (nu ct) f1) (hc : cop f1 f2) (hd : nu ct (f1 * f2) ≤ 11) (hall : ∀ c : R, (eq K (f1 * f2) c) ^ ((p - 1) / 2) = 1) : False := by
  have hF := h.2.2.1
  have hE := pol_EU K hF
  have hodd : p % 2 = 1 := by
    rcases Nat.mod_two_eq_zero_or_one p with q | q
    · rcases h.1.2 2 (Nat.dvd_of_mod_eq_zero q) with z | z <;> omega
    · exact q
  obtain ⟨M, hM⟩ : ∃ M, p = 2 * M + 1 := ⟨p / 2, by omega⟩
  have hM2 : (p - 1) / 2 = M := by omega
  rw [hM2] at hall
  generalize hf : f1 * f2 = f at *
  have wf : wT ct 10 f := hd
  obtain ⟨hsN, _⟩ := Xp_co K h
  obtain ⟨s, hs⟩ : ∃ s, s = mo K 1 1 ^ p - mo K 1 1 := ⟨_, rfl⟩
  rw [← hs] at hsN
  have hg1 : dv s (f ^ M - 1) := by
    rw [hs]
    exact all_dv K h (fun c => by rw [eq_sub, eq_pw, hall, eq_one]; grind)
  have hXs : mo K 1 1 + s = mo K 1 1 ^ p := by rw [hs]; grind
  have hfp : ev K f (mo K 1 1 ^ p) = f ^ p := by
    have := X_pd K h f 1
    rw [show p ^ 1 = p from Nat.pow_one p] at this
    exact this.symm
  have hgg : f ^ M * f ^ M * f = f ^ p := by
    rw [hM, pw_succ, show 2 * M = M + M by omega, pw_add]
  -- f at X + Y
  obtain ⟨Z, hZ⟩ : ∃ Z, Z = mo Q (mo K 1 1) 0 + mo Q 1 1 := ⟨_, rfl⟩
  have hZw : wU ct cu 1 Z := by rw [hZ]; exact wU_a K Q (wU_mo K Q (wT_mo K 1 1) 0) (wU_mo K Q (wT_1 K 1) 1)
  have hZe : eq Q Z s = mo K 1 1 ^ p := by rw [hZ, eq_add, eq_mo, eq_mo, pw_zero, pw1, ← hXs]; grind
  have hH : wU ct cu 10 (sm (fun i => mo Q (mo K (ct f i) 0) 0 * Z ^ i) 11) := wU_sm K Q (fun i hi => wU_l (by omega) (wU_m K Q (wU_mo K Q (wT_mo K (ct f i) 0) 0) (wU_p K Q hZw i)))
  have hHe : f ^ M * f ^ M * f = eq Q (sm (fun i => mo Q (mo K (ct f i) 0) 0 * Z ^ i) 11) s := by
    rw [hgg, ← hfp, ev_n K f _ hd, eq_sm]
    refine sm_congr (fun i _ => ?_)
    rw [eq_mul, eq_mo, eq_pw, hZe, pw_zero]; grind
  -- the half
  obtain ⟨hb, hhb⟩ := hF.2 (nt 2) (h.2.2.2.2 2 (by omega) (by omega))
  have hi2 : mo K hb 0 + mo K hb 0 = 1 := by
    rw [← mo_add, ← mo_one K]
    congr 1
    rw [nt_succ, nt_one] at hhb
    grind
  obtain ⟨A, hA, w, hw⟩ := rec K Q hF wf hH hHe hg1 hi2 (wT_mo K hb 0) 12 (by omega)
  have e12 : 2 ^ 12 - 1 = 4095 := by decide
  have e12b : 10 * (12 * 2 ^ 12) = 491520 := by decide
  rw [e12] at hw
  rw [e12b] at hA
  -- the unknowns
  have hlin := lin (S := T) (fun a b q => eu_dom hE q) (fun q => by have := (nu_zero K).mpr q; rw [eu_one hE (a := s) (fun q => by rw [(nu_zero K).mpr q] at hsN; omega)] at this; omega) (W := wT ct) (wT_0 K 0) (wT_1 K 0) (fun m n a b => wT_m K) (fun m a b => wT_s K) (fun m n a => wT_l) 13 14 600000 (fun e j => cu (if j < 7 then mo Q (f ^ 4095) 0 * Z ^ j else A * Z ^ (j - 7)) e) (by omega) (fun e j _ hj => by
    by_cases q : j < 7
    · simp only [if_pos q]
      exact wT_l (by omega) (wU_m K Q (wU_mo K Q (wT_p K wf 4095) 0) (wU_p K Q hZw j) e)
    · simp only [if_neg q]
      exact wT_l (by omega) (wU_m K Q hA (wU_p K Q hZw (j - 7)) e))
  obtain ⟨x, ⟨j1, hj1, hx1⟩, hx2, hx3⟩ := hlin
  have eB : 600000 * (2 ^ 13 - 1) = 4914600000 := by decide
  rw [eB] at hx2
  have hTh : ∀ e, e < 13 → cu (sm (fun j => mo Q (x j) 0 * (if j < 7 then mo Q (f ^ 4095) 0 * Z ^ j else A * Z ^ (j - 7))) 14) e = 0 := by
    intro e he
    rw [sm_co Q, ← hx3 e he]
    exact sm_congr (fun j _ => by rw [mo_mul Q, if_pos (Nat.zero_le _), Nat.sub_zero]; grind)
  obtain ⟨d1, hd1⟩ := low_dv Q (s := s) 13 _ hTh
  have hev : eq Q (sm (fun j => mo Q (x j) 0 * (if j < 7 then mo Q (f ^ 4095) 0 * Z ^ j else A * Z ^ (j - 7))) 14) s = f ^ 4095 * sm (fun j => x j * (mo K 1 1 ^ p) ^ j) 7 + eq Q A s * sm (fun j => x (7 + j) * (mo K 1 1 ^ p) ^ j) 7 := by
    rw [eq_sm, show (14 : Nat) = 7 + 7 from rfl, sm_split]
    congr 1
    · rw [← sm_mul]
      refine sm_congr (fun j hj => ?_)
      rw [eq_mul, eq_mo, if_pos hj, eq_mul, eq_mo, eq_pw, hZe, pw_zero]; grind
    · rw [← sm_mul]
      refine sm_congr (fun j hj => ?_)
      rw [eq_mul, eq_mo, if_neg (by omega), eq_mul, eq_pw, hZe, pw_zero, show 7 + j - 7 = j by omega]; grind
  rw [hev] at hd1
  obtain ⟨Rr, hRr⟩ : ∃ z, z = sm (fun j => x j * (mo K 1 1 ^ p) ^ j) 7 := ⟨_, rfl⟩
  obtain ⟨Ss, hSs⟩ : ∃ z, z = sm (fun j => x (7 + j) * (mo K 1 1 ^ p) ^ j) 7 := ⟨_, rfl⟩
  rw [← hRr, ← hSs] at hd1
  have hdvP : dv (s ^ 13) (f ^ 4095 * (Rr + f ^ M * Ss)) := ⟨d1 + w * Ss, by
    generalize f ^ 4095 = F at *
    generalize s ^ 13 = G at *
    generalize eq Q A s = a at *
    generalize f ^ M = g at *
    grind⟩
  have hcsf : cop s f := by
    obtain ⟨c, hc⟩ := hg1
    obtain ⟨M', hM'⟩ : ∃ M', M = M' + 1 := ⟨M - 1, by omega⟩
    rw [hM', pw_succ] at hc
    exact ⟨-c, f ^ M', by grind⟩
  have hdvP2 : dv (s ^ 13) (Rr + f ^ M * Ss) := cop_dv (cop_symm (cop_pw (cop_symm (cop_pw hcsf 4095)) 13)) hdvP
  have hs0 : s ≠ 0 := fun q => by rw [(nu_zero K).mpr q] at hsN; omega
  have hYw : wT ct p (mo K 1 1 ^ p) := by have := wT_p K (wT_mo K (1 : R) 1) p; rw [Nat.one_mul] at this; exact this
  have hsumw : ∀ y : Nat → T, (∀ j, j < 7 → wT ct 4914600000 (y j)) → wT ct (4914600000 + p * 6) (sm (fun j => y j * (mo K 1 1 ^ p) ^ j) 7) := fun y hy => wT_sm K (fun j hj => wT_l (Nat.add_le_add_left (Nat.mul_le_mul_left p (by omega)) _) (wT_m K (hy j hj) (wT_p K hYw j)))
  have hwR : wT ct (4914600000 + p * 6) Rr := by rw [hRr]; exact hsumw x (fun j hj => hx2 j (by omega))
  have hwS : wT ct (4914600000 + p * 6) Ss := by rw [hSs]; exact hsumw (fun j => x (7 + j)) (fun j hj => hx2 (7 + j) (by omega))
  have hP0 : Rr + f ^ M * Ss = 0 := by
    apply Classical.byContradiction
    intro hne
    have a1 := eu_le hE hdvP2 hne
    have a2 : wT ct (10 * M + (4914600000 + p * 6)) (Rr + f ^ M * Ss) := wT_a K (wT_l (by omega) hwR) (wT_m K (wT_p K wf M) hwS)
    rw [(nu_pw K hF hs0 13).1, hsN] at a1
    unfold wT at a2
    omega
  -- over the letter Y = X^p
  obtain ⟨rU, hrU⟩ : ∃ z, z = sm (fun j => mo Q (x j) j) 7 := ⟨_, rfl⟩
  obtain ⟨sU, hsU⟩ : ∃ z, z = sm (fun j => mo Q (x (7 + j)) j) 7 := ⟨_, rfl⟩
  obtain ⟨fU, hfU⟩ : ∃ z, z = sm (fun i => mo Q (mo K (ct f i) 0) i) 11 := ⟨_, rfl⟩
  have hrw : wU ct cu 4914600000 rU := by rw [hrU]; exact wU_sm K Q (fun j hj => wU_mo K Q (hx2 j (by omega)) j)
  have hsw : wU ct cu 4914600000 sU := by rw [hsU]; exact wU_sm K Q (fun j hj => wU_mo K Q (hx2 (7 + j) (by omega)) j)
  have hfw : wU ct cu 0 fU := by rw [hfU]; exact wU_sm K Q (fun j hj => wU_mo K Q (wT_mo K (ct f j) 0) j)
  have hre : eq Q rU (mo K 1 1 ^ p) = Rr := by
    rw [hrU, eq_sm, hRr]; exact sm_congr (fun j _ => by rw [eq_mo])
  have hse : eq Q sU (mo K 1 1 ^ p) = Ss := by
    rw [hsU, eq_sm, hSs]; exact sm_congr (fun j _ => by rw [eq_mo])
  have hfe : eq Q fU (mo K 1 1 ^ p) = f ^ p := by
    rw [hfU, eq_sm, ← hfp, ev_n K f _ hd]; exact sm_congr (fun j _ => by rw [eq_mo])
  have hzero : eq Q (rU * rU * mo Q f 0 - sU * sU * fU) (mo K 1 1 ^ p) = 0 := by
    rw [eq_sub, eq_mul, eq_mul, eq_mul, eq_mul, eq_mo, hre, hse, hfe, pw_zero, ← hgg]
    have : Rr = -(f ^ M * Ss) := by grind
    rw [this]; grind
  have hYN : nu ct (mo K 1 1 ^ p) = p + 1 := by rw [mo_pw, pw_one, Nat.one_mul]; exact mo_N K p hF.1
  have hUz : ∀ i, cu (rU * rU * mo Q f 0 - sU * sU * fU) i = 0 := by
    intro i
    refine (low K Q hF (s := mo K 1 1 ^ p) (D := 4914600000 + 4914600000 + 10) (by omega) i _ ?_ ?_).1 i (Nat.le_refl _)
    · exact wU_s K Q (wU_m K Q (wU_m K Q hrw hrw) (wU_mo K Q wf 0)) (wU_l (by omega) (wU_m K Q (wU_m K Q hsw hsw) hfw))
    · rw [hzero]; exact dv_zero _
  have hcr : ∀ i, i < 7 → cu rU i = x i := by
    intro i hi
    rw [hrU, sm_co Q, sm_one (k := i) hi (fun j _ hne => by rw [mo_co Q, if_neg (fun q => hne q.symm)]), mo_co Q, if_pos rfl]
  have hcs : ∀ i, i < 7 → cu sU i = x (7 + i) := by
    intro i hi
    rw [hsU, sm_co Q, sm_one (k := i) hi (fun j _ hne => by rw [mo_co Q, if_neg (fun q => hne q.symm)]), mo_co Q, if_pos rfl]
  have hcf : cu fU 0 = mo K (ct f 0) 0 := by
    rw [hfU, sm_co Q, sm_one (k := 0) (by omega) (fun j _ hne => by rw [mo_co Q, if_neg (fun q => hne q.symm)]), mo_co Q, if_pos rfl]
  have hex : ∃ j, cu rU j ≠ 0 ∨ cu sU j ≠ 0 := by
    rcases Nat.lt_or_ge j1 7 with q | q
    · exact ⟨j1, Or.inl (by rw [hcr j1 q]; exact hx1)⟩
    · exact ⟨j1 - 7, Or.inr (by rw [hcs (j1 - 7) (by omega), show 7 + (j1 - 7) = j1 by omega]; exact hx1)⟩
  obtain ⟨j0, hj0, hmin⟩ := least hex
  have hr0 : ∀ i, i < j0 → cu rU i = 0 := fun i hi => Classical.byContradiction (fun q => hmin i hi (Or.inl q))
  have hs00 : ∀ i, i < j0 → cu sU i = 0 := fun i hi => Classical.byContradiction (fun q => hmin i hi (Or.inr q))
  obtain ⟨a1, a2⟩ := mul_low Q hr0 hr0
  obtain ⟨b1, b2⟩ := mul_low Q hs00 hs00
  have c1 : cu (rU * rU * mo Q f 0) (j0 + j0 + 0) = cu rU j0 * cu rU j0 * f := by
    rw [(mul_low Q (b := mo Q f 0) (k := 0) a2 (fun i hi => absurd hi (by omega))).1, a1, mo_co Q, if_pos rfl]
  have c2 : cu (sU * sU * fU) (j0 + j0 + 0) = cu sU j0 * cu sU j0 * mo K (ct f 0) 0 := by
    rw [(mul_low Q (b := fU) (k := 0) b2 (fun i hi => absurd hi (by omega))).1, b1, hcf]
  have c3 := hUz (j0 + j0 + 0)
  rw [p_sub Q, c1, c2] at c3
  have hf00 : ct f 0 ≠ 0 := by
    intro q
    have z := hall 0
    obtain ⟨v, _, hv⟩ := shf K f
    rw [hv, q] at z
    obtain ⟨M', hM'⟩ : ∃ M', M = M' + 1 := ⟨M - 1, by omega⟩
    rw [hM', pw_succ] at z
    exact hF.1 (by grind)
  have hr2 : cu rU j0 = 0 := desc K hF h1 hc hf00 _ (cu rU j0) (cu sU j0) (Nat.le_refl _) (by rw [hf]; grind)
  rw [hr2] at c3
  rcases hj0 with q | q
  · exact q hr2
  · have c4 : cu sU j0 * (cu sU j0 * mo K (ct f 0) 0) = 0 := by grind
    rcases eu_dom hE c4 with z | z
    · exact q z
    · rcases eu_dom hE z with z | z
      · exact q z
      · have := (nu_zero K).mpr z
        rw [mo_N K 0 hf00] at this
        omega
end MStepB
