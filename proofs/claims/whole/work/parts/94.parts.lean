/-! the reference's parts: how many irreducible factors by a small prime -/
section MParts
noncomputable def cnD {R T : Type} [Lean.Grind.CommRing R] [Lean.Grind.CommRing T] (ct : T → Nat → R) : List T → Nat → Nat
  | [], _ => 0
  | π :: L, e => (if nu ct π - 1 = e then 1 else 0) + cnD ct L e
theorem ls_div {R T : Type} [Lean.Grind.CommRing R] [Lean.Grind.CommRing T] {ct : T → Nat → R} {d : Nat} (hd : 1 ≤ d) : ∀ (L : List T), (∀ π ∈ L, 2 ≤ nu ct π) → ((ls (nu ct) (L.filter (fun π => decide (nu ct π - 1 ∣ d))) : Nat) : Int) = sm (fun i => if (i + 1) ∣ d then ((i + 1 : Nat) : Int) * (cnD ct L (i + 1) : Nat) else 0) d
  | [], _ => by
    rw [sm_zero (fun i _ => by simp only [cnD]; split <;> omega)]
    rfl
  | π :: L, h => by
    have ih := ls_div hd L (fun ρ hρ => h ρ (List.mem_cons_of_mem _ hρ))
    have h2 := h π (List.mem_cons_self ..)
    have e1 : sm (fun i => if (i + 1) ∣ d then ((i + 1 : Nat) : Int) * (cnD ct (π :: L) (i + 1) : Nat) else 0) d = sm (fun i => if (i + 1) ∣ d then ((i + 1 : Nat) : Int) * (if nu ct π - 1 = i + 1 then 1 else 0) else 0) d + sm (fun i => if (i + 1) ∣ d then ((i + 1 : Nat) : Int) * (cnD ct L (i + 1) : Nat) else 0) d := by
      rw [← sm_add]
      refine sm_congr (fun i _ => ?_)
      simp only [cnD]
      by_cases z : (i + 1) ∣ d
      · rw [if_pos z, if_pos z, if_pos z]
        by_cases y : nu ct π - 1 = i + 1
        · rw [if_pos y, if_pos y, Int.natCast_add 1, Int.mul_add]; rfl
        · rw [if_neg y, if_neg y, Int.natCast_add 0, Int.mul_add]; rfl
      · rw [if_neg z, if_neg z, if_neg z]; rfl
    rw [e1, ← ih]
    by_cases z : nu ct π - 1 ∣ d
    · have hle := Nat.le_of_dvd hd z
      rw [List.filter_cons_of_pos (by simpa using z), sm_one (k := nu ct π - 2) (by omega) (fun i _ hne => by
        by_cases y : (i + 1) ∣ d
        · rw [if_pos y, if_neg (by omega)]; omega
        · rw [if_neg y])]
      simp only [ls]
      rw [if_pos (by rw [show nu ct π - 2 + 1 = nu ct π - 1 by omega]; exact z), if_pos (by omega)]
      omega
    · rw [List.filter_cons_of_neg (by simpa using z), sm_zero (fun i _ => by
        by_cases y : (i + 1) ∣ d
        · rw [if_pos y, if_neg (fun q => z (by rw [q]; exact y))]; omega
        · rw [if_neg y])]
      omega
theorem cn_all {R T : Type} [Lean.Grind.CommRing R] [Lean.Grind.CommRing T] {ct : T → Nat → R} {N : Nat} : ∀ (L : List T), (∀ π ∈ L, 2 ≤ nu ct π ∧ nu ct π ≤ N + 1) → sm (fun i => ((cnD ct L (i + 1) : Nat) : Int)) N = (L.length : Nat)
  | [], _ => by
    rw [sm_zero (fun i _ => by simp only [cnD]; rfl)]
    rfl
  | π :: L, h => by
    have ih := cn_all L (fun ρ hρ => h ρ (List.mem_cons_of_mem _ hρ))
    have h2 := h π (List.mem_cons_self ..)
    have e1 : sm (fun i => ((cnD ct (π :: L) (i + 1) : Nat) : Int)) N = sm (fun i => (if nu ct π - 1 = i + 1 then (1 : Int) else 0)) N + sm (fun i => ((cnD ct L (i + 1) : Nat) : Int)) N := by
      rw [← sm_add]
      refine sm_congr (fun i _ => ?_)
      simp only [cnD]
      by_cases y : nu ct π - 1 = i + 1
      · rw [if_pos y, if_pos y, Int.natCast_add]; rfl
      · rw [if_neg y, if_neg y, Int.natCast_add]; rfl
    rw [e1, ih, sm_one (k := nu ct π - 2) (by omega) (fun i _ hne => if_neg (by omega)), if_pos (by omega), List.length_cons]
    omega
theorem k45 : kd 45 = 1 ∧ kn 45 = 12 := ⟨rfl, rfl⟩
theorem s_isPrime8 {a : Int} (ha : inI a) {n : Nat} (hn : 18446744073709551616 ≤ n) : ((2 ≤ a ∧ a ≤ 97 ∧ prm a.toNat) ∧ f_X8_isPrime n a = some 1) ∨ (¬ (2 ≤ a ∧ a ≤ 97 ∧ prm a.toNat) ∧ f_X8_isPrime n a = some 0) := by
  unfold f_X8_isPrime
  rw [gI_s ha (by omega), bs]
  by_cases h1 : a < 2
  · rw [if_pos h1]; exact Or.inr ⟨by omega, rfl⟩
  · rw [if_neg h1, gI_s ha (by omega), bs]
    by_cases h2 : a ≤ 97
    · rw [if_pos h2]
      obtain ⟨x, hx⟩ : ∃ x : Nat, a = x := ⟨a.toNat, by omega⟩
      subst hx
      rw [Int.toNat_natCast]
      obtain ⟨r, hr, hr2⟩ := lp_do (step := l_X8_isPrime_15 x) (fun st => ∃ d : Nat, st = d ∧ 2 ≤ d ∧ d ≤ 98 ∧ ∀ e, 2 ≤ e → e < d → ¬ e ∣ x) (fun st => (200 - st).toNat) (fun r => (r = .inl 0 ∧ ¬ prm x) ∨ (r = .inr () ∧ prm x)) (fun st hst => by
        obtain ⟨d, hd, hd2, hd98, hno⟩ := hst
        subst hd
        have hdd : (d : Int) * d ≤ 98 * 98 := Int.mul_le_mul (by omega) (by omega) (by omega) (by omega)
        have hdd2 : 0 ≤ (d : Int) * d := Int.mul_nonneg (by omega) (by omega)
        unfold l_X8_isPrime_15
        rw [gI_s (by omega) (by omega), bs]
        by_cases hlt : (x : Int) < (d : Int) * d
        · rw [if_pos hlt]
          refine Or.inl ⟨_, rfl, Or.inr ⟨rfl, by omega, fun e he => ?_⟩⟩
          apply Classical.byContradiction
          intro hh
          have he1 : e ≠ 1 := fun z => hh (Or.inl z)
          have hex : e ≠ x := fun z => hh (Or.inr z)
          obtain ⟨w, hw⟩ := he
          have hx0 : 0 < x := by omega
          have he0 : 0 < e := by rcases Nat.eq_zero_or_pos e with z | z; (rw [z] at hw; omega); exact z
          have hw0 : 0 < w := by rcases Nat.eq_zero_or_pos w with z | z; (rw [z] at hw; omega); exact z
          have hw1 : w ≠ 1 := fun z => hex (by rw [hw, z, Nat.mul_one])
          have h5 : d ≤ e := by
            rcases Nat.lt_or_ge e d with z | z
            · exact absurd ⟨w, hw⟩ (hno e (by omega) z)
            · exact z
          have h6 : d ≤ w := by
            rcases Nat.lt_or_ge w d with z | z
            · exact absurd ⟨e, by rw [hw, Nat.mul_comm]⟩ (hno w (by omega) z)
            · exact z
          have h7 : d * d ≤ e * w := Nat.mul_le_mul h5 h6
          have h8 : ((d * d : Nat) : Int) = (d : Int) * d := by rw [Int.natCast_mul]
          omega
        · have er : orI (x : Int) d = some ((x : Int).tmod d) := by unfold orI; rw [if_pos ⟨by omega, by omega, by omega, by omega⟩]
          have e2 : (x : Int).tmod d = ((x % d : Nat) : Int) := by rw [tmod_nn (by omega)]; exact (Int.natCast_emod x d).symm
          have hmd := Nat.mod_lt x (show 0 < d by omega)
          have hdle : d ≤ 97 := by
            rcases Nat.lt_or_ge 97 d with z | z
            · exfalso
              have : (98 : Int) * 98 ≤ (d : Int) * d := Int.mul_le_mul (by omega) (by omega) (by omega) (by omega)
              omega
            · exact z
          rw [if_neg hlt, er, bs, e2, gI_s (by omega) (by omega), bs]
          by_cases hz : ((x % d : Nat) : Int) = 0
          · rw [if_pos hz]
            refine Or.inl ⟨_, rfl, Or.inl ⟨rfl, fun hp => ?_⟩⟩
            have hdv : d ∣ x := Nat.dvd_of_mod_eq_zero (by omega)
            rcases hp.2 d hdv with z | z
            · omega
            · have : (d : Int) * 2 ≤ (d : Int) * d := Int.mul_le_mul_of_nonneg_left (by omega) (by omega)
              omega
          · rw [if_neg hz]
            refine Or.inr ⟨_, rfl, ⟨d + 1, by omega, by omega, by omega, fun e he1 he2 => ?_⟩, by omega⟩
            rcases Nat.lt_or_ge e d with z | z
            · exact hno e he1 z
            · rw [show e = d by omega]
              exact fun hdv => hz (by have := Nat.mod_eq_zero_of_dvd hdv; omega)) n 2 ⟨2, rfl, by omega, by omega, fun e h1 h2 => absurd h1 (by omega)⟩ (by omega)
      rw [hr, bs]
      rcases hr2 with ⟨q, h⟩ | ⟨q, h⟩
      · rw [q]; exact Or.inr ⟨fun z => h z.2.2, rfl⟩
      · rw [q]; exact Or.inl ⟨⟨by omega, h2, h⟩, rfl⟩
    · rw [if_neg h2]; exact Or.inr ⟨by omega, rfl⟩
/-- what only the reference's scratch holds may change -/
def kq (M M' : MI) : Prop := (∀ k i, k ≠ 41 → ¬ (k = 36 ∧ i = 9) → M'.1 k i = M.1 k i) ∧ (∀ k i, k ≠ 42 → k ≠ 45 → M'.2 k i = M.2 k i)
theorem kq_refl (M : MI) : kq M M := ⟨fun _ _ _ _ => rfl, fun _ _ _ _ => rfl⟩
theorem kq_trans {M M' M'' : MI} (h : kq M M') (h1 : kq M' M'') : kq M M'' := ⟨fun k i a b => (h1.1 k i a b).trans (h.1 k i a b), fun k i a b => (h1.2 k i a b).trans (h.2 k i a b)⟩
theorem kq_chg {Rs : List Nat} {M M' : MI} (h : chg Rs M M') : kq M M' := ⟨fun k i a _ => h.1 k i a, fun k i a _ => h.2.1 k i a⟩
theorem RP_45 {R T : Type} [Lean.Grind.CommRing R] [Lean.Grind.CommRing T] {ct : T → Nat → R} {φ : Int → R} {m : Int} {M : MI} {s : Nat} {f : T} (h : RP ct φ m M s f) (i : Nat) (v : Int) : RP ct φ m (oI M 45 i v) s f := ⟨by show (oI M 45 i v).2 42 s = _; rw [oI_2, if_neg (by omega)]; exact h.1, h.2⟩
theorem s_partsI {c : Nat → Nat} {d D : Nat} (hd1 : 1 ≤ d) (hd : d ≤ 11) {M : MI} (hc : ∀ e, 1 ≤ e → e < d → M.2 45 e = (c e : Nat)) (hcb : ∀ e, c e ≤ 1000) (hD : (D : Int) ≤ 1000) {n : Nat} (hn : 18446744073709551616 ≤ n) : lpF (l_X8_parts_174 d M) n ((D : Int), 1) = some ((D : Int) - sm (fun i => if (i + 1) ∣ d then ((i + 1 : Nat) : Int) * (c (i + 1) : Nat) else 0) (d - 1)) := by
  have hb : ∀ k, k ≤ 10 → 0 ≤ sm (fun i => if (i + 1) ∣ d then ((i + 1 : Nat) : Int) * (c (i + 1) : Nat) else 0) k ∧ sm (fun i => if (i + 1) ∣ d then ((i + 1 : Nat) : Int) * (c (i + 1) : Nat) else 0) k ≤ k * 100000 := by
    intro k
    induction k with
    | zero => intro _; simp [sm]
    | succ k ih =>
      intro hk
      obtain ⟨h1, h2⟩ := ih (by omega)
      rw [sm_succ]
      have h3 : 0 ≤ (if (k + 1) ∣ d then ((k + 1 : Nat) : Int) * (c (k + 1) : Nat) else 0) ∧ (if (k + 1) ∣ d then ((k + 1 : Nat) : Int) * (c (k + 1) : Nat) else 0) ≤ 100000 := by
        split
        · have h4 := hcb (k + 1)
          refine ⟨Int.mul_nonneg (by omega) (by omega), ?_⟩
          have : ((k + 1 : Nat) : Int) * (c (k + 1) : Nat) ≤ 100 * 1000 := Int.mul_le_mul (by omega) (by omega) (by omega) (by omega)
          omega
        · omega
      omega
  have e := lp_for (step := l_X8_parts_174 d M) (fun k => ((D : Int) - sm (fun i => if (i + 1) ∣ d then ((i + 1 : Nat) : Int) * (c (i + 1) : Nat) else 0) k, ((k + 1 : Nat) : Int))) ((D : Int) - sm (fun i => if (i + 1) ∣ d then ((i + 1 : Nat) : Int) * (c (i + 1) : Nat) else 0) (d - 1)) (d - 1) n (fun k hk => by
    have er : orI (d : Int) ((k + 1 : Nat) : Int) = some ((d % (k + 1) : Nat) : Int) := by
      unfold orI
      rw [if_pos ⟨by omega, by omega, by omega, by omega⟩, tmod_nn (by omega)]
      exact congrArg some (Int.natCast_emod d (k + 1)).symm
    have hmd := Nat.mod_lt d (show 0 < k + 1 by omega)
    unfold l_X8_parts_174
    dsimp only
    rw [gI_s (by omega) (by omega), bs, if_neg (by omega), er, bs, gI_s (by omega) (by omega), bs]
    by_cases z : (k + 1) ∣ d
    · have hz := Nat.mod_eq_zero_of_dvd z
      rw [if_pos (by omega), odI_n (k + 1) rfl (by omega) (by rw [k45.2]; omega), bs, bs, hc (k + 1) (by omega) (by omega), sm_succ, if_pos z]
      congr 2
      refine Prod.ext ?_ (by dsimp only; omega)
      dsimp only
      omega
    · have hz : d % (k + 1) ≠ 0 := fun q => z (Nat.dvd_of_mod_eq_zero q)
      rw [if_neg (by omega), bs, sm_succ, if_neg z]
      congr 2
      refine Prod.ext ?_ (by dsimp only; omega)
      dsimp only
      omega) (by
    unfold l_X8_parts_174
    dsimp only
    rw [gI_s (by omega) (by omega), bs, if_pos (by omega)]) (by omega)
  simp only [sm, Int.sub_zero] at e
  exact e
theorem cnD_le {R T : Type} [Lean.Grind.CommRing R] [Lean.Grind.CommRing T] {ct : T → Nat → R} : ∀ (L : List T) (e : Nat), cnD ct L e ≤ L.length
  | [], _ => Nat.le_refl _
  | π :: L, e => by simp only [cnD, List.length_cons]; have := cnD_le (ct := ct) L e; split <;> omega
theorem FL_len {R T : Type} [Lean.Grind.CommRing R] [Lean.Grind.CommRing T] {ct : T → Nat → R} (K : isPol ct) (hF : isF R) {f : T} (hf : f ≠ 0) {L : List T} (hL : FL (nu ct) f L) : L.length + 1 ≤ nu ct f := by
  have hE := pol_EU K hF
  have hone : (1 : T) ≠ 0 := fun z => by
    have := p_one K (S := T) 0
    rw [z, p_zero K, if_pos rfl] at this
    exact hF.1 this.symm
  have h1 := lp_dv (f := f) hL.2.1 (fun b hb => (hL.1 b hb).2)
  have h2 := eu_le hE h1 hf
  have h3 := lp_N hE hone (L := L) (fun b hb => irr_ne hE (hL.1 b hb).1)
  have h4 : ∀ (M : List T), (∀ b ∈ M, 2 ≤ nu ct b) → M.length ≤ ls (nu ct) M := fun M => by
    induction M with
    | nil => intro _; exact Nat.le_refl _
    | cons a M ih =>
      intro h
      simp only [ls, List.length_cons]
      have := ih (fun b hb => h b (List.mem_cons_of_mem _ hb))
      have := h a (List.mem_cons_self ..)
      omega
  have := h4 L (fun b hb => (hL.1 b hb).1.1)
  omega
end MParts
