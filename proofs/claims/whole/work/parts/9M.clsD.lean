/-! the class's factorizer: divides, joinPieces -/
section MClsD
theorem c_bitCount {x : Nat} (hx : x < 1024) : f_J6_bitCount_0f7a4 x = some ((pc (tb x) 10 : Nat) : Int) := by
  have : ∀ x : Fin 1024, f_J6_bitCount_0f7a4 (x.1 : Int) = some ((pc (tb x.1) 10 : Nat) : Int) := by decide +kernel
  exact this ⟨x, hx⟩
theorem PCc_ch {R T : Type} [Lean.Grind.CommRing T] [Lean.Grind.CommRing R] {ct : T → Nat → R} {φ : Int → R} {p : Nat} {M M' : MI} {m : Nat} {q : Nat → T} {As : List Nat} (h : PCc ct φ p M m q) (hc : chF As M M') (hs : ∀ s ∈ As, ¬ (129 ≤ s ∧ s < 139)) (hm : m ≤ 10) : PCc ct φ p M' m q := ⟨by rw [hc.2 4 1 (by omega) (by omega)]; exact h.1, fun j hj => ⟨CP_chF (h.2 j hj).1 hc (fun z => hs _ z (by omega)), (h.2 j hj).2⟩⟩
theorem pm_mon {R T : Type} [Lean.Grind.CommRing R] [Lean.Grind.CommRing T] {ct : T → Nat → R} (K : isPol ct) (hF : isF R) {q : Nat → T} {a : Nat → Bool} : ∀ {m : Nat}, (∀ j, j < m → ct (q j) (nu ct (q j) - 1) = 1 ∧ 2 ≤ nu ct (q j)) → ct (pm q a m) (nu ct (pm q a m) - 1) = 1 ∧ pm q a m ≠ 0
  | 0, _ => by
    have h1 : pm q a 0 = 1 := rfl
    have h2 : nu ct (1 : T) = 1 := nu_eq K (fun i hi => by rw [p_one K, if_neg (by omega)]) (fun _ => by rw [p_one K, if_pos (by omega)]; exact hF.1)
    rw [h1, h2, p_one K, if_pos rfl]
    exact ⟨rfl, fun z => by rw [(nu_zero K).mpr z] at h2; omega⟩
  | m + 1, h => by
    obtain ⟨h1, h2⟩ := pm_mon K hF (a := a) (m := m) (fun j hj => h j (by omega))
    have e : pm q a (m + 1) = pm q a m * (if a m then q m else 1) := rfl
    by_cases z : a m = true
    · rw [z, if_pos rfl] at e
      obtain ⟨h3, h4⟩ := h m (by omega)
      have b0 : q m ≠ 0 := fun w => by rw [(nu_zero K).mpr w] at h4; omega
      have n1 := nu_mul K (isF_D hF) h2 b0
      have na : nu ct (pm q a m) ≠ 0 := fun w => h2 ((nu_zero K).mp w)
      have t := mul_top K (a := pm q a m) (b := q m) (n := nu ct (pm q a m) - 1) (m := nu ct (q m) - 1) (fun i hi => nu_hi K _ (by omega)) (fun i hi => nu_hi K _ (by omega))
      rw [e]
      refine ⟨?_, fun w => ?_⟩
      · rw [show nu ct (pm q a m * q m) - 1 = nu ct (pm q a m) - 1 + (nu ct (q m) - 1) by omega, t, h1, h3]
        grind
      · rw [(nu_zero K).mpr w] at n1; omega
    · rw [if_neg z] at e
      rw [e, show pm q a m * 1 = pm q a m by grind]
      exact ⟨h1, h2⟩
/-- a set of some, not all, pieces has a product of lower degree -/
theorem pm_lt {R T : Type} [Lean.Grind.CommRing R] [Lean.Grind.CommRing T] {ct : T → Nat → R} (K : isPol ct) (hF : isF R) {q : Nat → T} {a : Nat → Bool} {m : Nat} (hq : ∀ j, j < m → ct (q j) (nu ct (q j) - 1) = 1 ∧ 2 ≤ nu ct (q j)) (ha : pc a m < m) : nu ct (pm q a m) < nu ct (pdn q m) := by
  have h1 := pm_not q a m
  obtain ⟨-, h2⟩ := pm_mon K hF (q := q) (a := a) (m := m) hq
  obtain ⟨-, h3⟩ := pm_mon K hF (q := q) (a := fun i => !a i) (m := m) hq
  have h4 := nu_mul K (isF_D hF) h2 h3
  rw [h1] at h4
  have h5 : 2 ≤ nu ct (pm q (fun i => !a i) m) := by
    obtain ⟨j, hj, hj2⟩ : ∃ j, j < m ∧ a j = false := by
      apply Classical.byContradiction
      intro hno
      have hall : ∀ j, j < m → a j = true := fun j hj => by
        cases h : a j
        · exact absurd ⟨j, hj, h⟩ hno
        · rfl
      have : ∀ m', m' ≤ m → pc a m' = m' := fun m' => by
        induction m' with
        | zero => intro _; rfl
        | succ m' ih => intro hm'; simp only [pc]; rw [ih (by omega), hall m' (by omega)]; rfl
      have := this m (Nat.le_refl _)
      omega
    have d := pm_mem (q := q) (a := fun i => !a i) (j := j) (by show (!a j) = true; rw [hj2]; rfl) hj
    have := eu_le (pol_EU K hF) d h3
    have := (hq j hj).2
    omega
  omega
theorem pm_dvm {T : Type} [Lean.Grind.CommRing T] (q : Nat → T) (a : Nat → Bool) : ∀ {k m : Nat}, k ≤ m → dv (pm q a k) (pm q a m) := fun {k m} h => by
  obtain ⟨d, rfl⟩ : ∃ d, m = k + d := ⟨m - k, by omega⟩
  clear h
  induction d with
  | zero => exact dv_refl _
  | succ d ih => exact dv_trans ih (dv_l _ _)
theorem c_fdivides {S T R : Type} [Lean.Grind.CommRing S] [Lean.Grind.CommRing T] [Lean.Grind.CommRing R] {co : S → Nat → Int} (P : isPol co) {ct : T → Nat → R} (K : isPol ct) {p : Nat} (hp : isZp R p) {φ : Int → R} (hφ : isRed φ p) (hlo : 16777216 ≤ p) (hp2 : p ≤ 16778000) (hod : p % 2 = 1) {M : MI} (hM : ok M) (hmp : M.1 1 0 = p) {m : Nat} (hm10 : m ≤ 10) (hm2 : 2 ≤ m) {q : Nat → T} (hPC : PCc ct φ p M m q) {f : T} (hpd : pdn q m = f) (c29 : CP ct φ p M 29 f) (hf1 : ct f (nu ct f - 1) = 1) {set : Nat} (hset : set < 1024) (hpc : pc (tb set) m < m) {F rest w : S} (hF0 : nu co F ≠ 0) (hNF : nu co F ≤ 11) (hXF : ∀ i, nz (co F i) ≤ 9999) (hFr : F = rest * w) (c28 : CZ co M 28 rest) (hlp : 0 < co rest (nu co rest - 1)) (hlr : ¬ (p : Int) ∣ co rest (nu co rest - 1)) {n : Nat} (hn : 18446744073709551616 ≤ n) :
    ∃ M', ok M' ∧ chJ [15, 18, 19, 31] M M' ∧ ((∃ C qq, f_X2_divides n set M = some (1, M') ∧ rest = C * qq ∧ CZ co M' 31 C ∧ CZ co M' 18 qq ∧ fac P K hp hφ q m rest (tb set) C) ∨ (f_X2_divides n set M = some (0, M') ∧ ∀ g, ¬ fac P K hp hφ q m rest (tb set) g)) := by
  have hF := hp.2.2.1
  have hE := pol_EU K hF
  have hp1 := hp.1.1
  have r28 : row 28 := ⟨rfl, rfl⟩
  have r29 : row 29 := ⟨rfl, rfl⟩
  have r31 : row 31 := ⟨rfl, rfl⟩
  have hq : ∀ j, j < m → ct (q j) (nu ct (q j) - 1) = 1 ∧ 2 ≤ nu ct (q j) := fun j hj => (hPC.2 j hj).2
  have hFne : F ≠ 0 := fun z => hF0 ((nu_zero P).mpr z)
  have hr0 : rest ≠ 0 := fun z => hFne (by rw [hFr, z]; grind)
  have hnr0 : nu co rest ≠ 0 := fun z => hr0 ((nu_zero P).mp z)
  have hNr := c28.2
  obtain ⟨bX, -, -⟩ := z_bd P hF0 hNF hXF (g := rest) ⟨w, hFr⟩
  obtain ⟨hmon, hpm0⟩ := pm_mon K hF (q := q) (a := tb set) (m := m) hq
  have hlt := pm_lt K hF (q := q) (a := tb set) hq hpc
  rw [hpd] at hlt
  have hlb := nz_le.mp (bX (nu co rest - 1))
  have d29 := c_degreeP K hφ hM r29 c29 hn
  have d28 := c_degree P hM r28 c28 hn
  have hNf := c29.2
  have emax : f_J9_max_7cf53 0 ((nu co rest : Int) - 1) = some ((nu co rest : Int) - 1) := by
    rw [j_maxI (by omega) (by omega)]
    split
    · rfl
    · exact congrArg some (by omega)
  have e4 : odJ M 28 ((nu co rest : Int) - 1) = some (co rest (nu co rest - 1)) := by rw [odJ_n (k := 28) (nu co rest - 1) rfl (by omega) (show _ < 11 by omega), c28.1 _ (by omega)]
  have hBB : ∀ (g h : S) (i : Nat), rest = g * h → nz (co g i * co h (nu co h - 1)) ≤ 98 * 9999 := fun g h i e => bomb_lc P hF0 hNF (by omega) hXF hFr e i
  obtain ⟨r, etf, hr01, hrno⟩ := c_tailFits P K hp hφ (by omega) hod hM hmp hm10 hPC hset c28 hr0 hlp (by omega) (by have := bX 0; omega) hlr hmon (B := 98 * 9999) hBB (by omega) hn
  by_cases hr : r = 0
  · refine ⟨M, hM, chJ_refl _ _, Or.inr ⟨?_, hrno hr⟩⟩
    unfold f_X2_divides
    rw [d29, bs, d28, bs, emax, bs, e4, bs, etf, bs, hr, gI_s (by omega) (by omega), bs, if_pos rfl]
  · have e6 := j_fill (M := M) (a := 31) rfl (by decide) 0 hn
    rw [show kn 31 = 11 from rfl] at e6
    obtain ⟨M7, hM7⟩ : ∃ M7, M7 = oJ (wrM M 31 0 11 (fun _ => 0)) 31 0 1 := ⟨_, rfl⟩
    have hok7 : ok M7 := by rw [hM7]; exact ok_oJ (ok_wrM hM (fun _ _ => by omega)) (by omega)
    have hc7 : chJ [31] M M7 := by rw [hM7]; exact chJ_mono (chJ_trans (chJ_wr M 31 0 11 _) (chJ_oJ _ 31 0 1)) (fun x hx => by simpa using hx)
    have hone : nu ct (1 : T) = 1 := nu_eq K (fun i hi => by rw [p_one K, if_neg (by omega)]) (fun _ => by rw [p_one K, if_pos (by omega)]; exact hF.1)
    have c7 : CP ct φ p M7 31 1 := ⟨fun i hi => by
      rw [hM7, oJ_1, p_one K]
      by_cases z : i = 0
      · rw [if_pos ⟨rfl, z⟩, if_pos z]; exact ⟨by omega, by omega, hφ.2.2.2⟩
      · rw [if_neg (fun y => z y.2), if_neg z, wrM_1, if_pos (by omega)]; exact ⟨by omega, by omega, red_zero hφ⟩, by omega⟩
    have hf2 : 2 ≤ nu ct f := by
      have := (pdn_nu K hF (q := q) (m := m) (fun j hj => (hq j hj).2)).1
      rw [hpd] at this
      omega
    have hqlt : ∀ j, j < m → nu ct (q j) < nu ct f := fun j hj => by
      obtain ⟨i, hi, hne⟩ : ∃ i, i < m ∧ i ≠ j := by
        by_cases z : j = 0
        · exact ⟨1, by omega, by omega⟩
        · exact ⟨0, by omega, fun y => z y.symm⟩
      have hq0 : ∀ i, i < m → q i ≠ 0 := fun i hi z => by have := (hq i hi).2; rw [(nu_zero K).mpr z] at this; omega
      have hd2 : dv (q i * q j) f := by
        rw [← hpd]
        rcases Nat.lt_or_ge i j with z | z
        · exact pdn_two q z hj
        · rw [show q i * q j = q j * q i by grind]; exact pdn_two q (by omega) hi
      have h5 := nu_mul K (isF_D hF) (hq0 i hi) (hq0 j hj)
      have h6 := eu_le hE hd2 (fun z => by rw [(nu_zero K).mpr z] at hf2; omega)
      have := (hq i hi).2
      omega
    obtain ⟨M15, hL, hok15, hc15, c15⟩ := lp_do (step := l_X2_divides_54 n set ((nu ct f : Int) - 1)) (fun st => ok st.1 ∧ chJ [15, 31] M7 st.1 ∧ ∃ k : Nat, st.2 = k ∧ k ≤ m ∧ CP ct φ p st.1 31 (pm q (tb set) k)) (fun st => (20 - st.2).toNat) (fun M' => ok M' ∧ chJ [15, 31] M7 M' ∧ CP ct φ p M' 31 (pm q (tb set) m)) (fun st hst => by
      obtain ⟨Ma, y⟩ := st
      obtain ⟨k1, k2, k, hy, hk, ck⟩ := hst
      dsimp only at k1 k2 hy ck
      subst hy
      have hPCa := PCc_ch (PCc_ch hPC (chF_of hc7) (fun s hs => by simp at hs; omega) hm10) (chF_of k2) (fun s hs => by simp at hs; omega) hm10
      have hma : Ma.1 1 0 = p := by rw [k2.2 1 0 (by simp), hc7.2 1 0 (by simp)]; exact hmp
      unfold l_X2_divides_54
      dsimp only
      rw [hPCa.1, gI_s (by omega) (by omega), bs]
      by_cases hle : (m : Int) ≤ k
      · rw [if_pos hle]
        have e : k = m := by omega
        subst e
        exact Or.inl ⟨_, rfl, k1, k2, ck⟩
      · have hpms : pm q (tb set) (k + 1) = pm q (tb set) k * (if tb set k then q k else 1) := rfl
        have rk : row (129 + k) := row_i (by omega)
        rw [if_neg hle, obit hset (by omega)]
        by_cases hb : set.testBit k = true
        · have hb' : tb set k = true := hb
          rw [hb', if_pos rfl] at hpms
          have c29a := CP_ch (CP_ch c29 hc7 (by simp)) k2 (by simp)
          have n1 : nu ct (pm q (tb set) k) < nu ct f := by have := eu_le hE (pm_dvm q (tb set) hk) hpm0; omega
          obtain ⟨Mb, qq, r, eb, hokb, hcb, hqr, hrn, cr⟩ := c_multiply K hp hφ (by omega) k1 (a := 31) (b := 129 + k) (c := 29) (d := 31) r31 rk r29 r31 (by decide) (by omega) (by decide) (by decide) hma ck (hPCa.2 k (by omega)).1 c29a hf2 hf1 n1 (hqlt k (by omega)) hn
          have hpr : nu ct (pm q (tb set) k * q k) < nu ct f := by
            rw [← hpms]
            have := eu_le hE (pm_dvm q (tb set) (show k + 1 ≤ m by omega)) hpm0
            omega
          have hreq : r = pm q (tb set) (k + 1) := by
            have h5 : dv f (pm q (tb set) k * q k - r) := ⟨qq, by rw [hqr]; grind⟩
            have h6 : pm q (tb set) k * q k - r = 0 := by
              apply Classical.byContradiction
              intro hne
              have h7 := eu_le hE h5 hne
              have h8 : nu ct (pm q (tb set) k * q k - r) ≤ nu ct f - 1 := nu_le K (fun i hi => by rw [p_sub K, nu_hi K _ (show nu ct (pm q (tb set) k * q k) ≤ i by omega), nu_hi K r (by omega)]; grind)
              omega
            rw [hpms]; grind
          rw [hreq] at cr
          rw [if_pos hb, gI_s (by omega) (by omega), bs, if_pos rfl, oA20 rfl (by omega), bs, eb, bs, bs]
          exact Or.inr ⟨_, rfl, ⟨hokb, chJ_mono (chJ_trans k2 hcb) (fun x hx => by simp at hx ⊢; omega), k + 1, by dsimp only; omega, by omega, cr⟩, by dsimp only; omega⟩
        · have hb' : tb set k = false := by unfold tb; simpa using hb
          rw [hb', if_neg (by decide)] at hpms
          rw [if_neg hb, gI_s (by omega) (by omega), bs, if_neg (by omega), bs]
          refine Or.inr ⟨_, rfl, ⟨k1, k2, k + 1, by dsimp only; omega, by omega, ?_⟩, by dsimp only; omega⟩
          dsimp only
          rw [hpms, show pm q (tb set) k * 1 = pm q (tb set) k by grind]
          exact ck) n (M7, 0) ⟨hok7, chJ_refl _ _, 0, rfl, by omega, c7⟩ (by dsimp only; omega)
    have hm15 : M15.1 1 0 = p := by rw [hc15.2 1 0 (by simp), hc7.2 1 0 (by simp)]; exact hmp
    obtain ⟨M16, l, e16, hok16, hc16, cl, hrl, hl1⟩ := c_lift P K hp hφ (by omega) hod hok15 r31 hm15 c15 (s := co rest (nu co rest - 1)) hlp (by omega) hn
    obtain ⟨M17, C, e17, hok17, hc17, cC, hCs, hCX⟩ := c_makePrimitive P hok16 r31 cl (fun i => by have := hl1 i; omega) hn
    have hNl0 : nu co l ≠ 0 := fun z => by
      have hl0 : l = 0 := (nu_zero P).mp z
      have h5 : rd P K hp hφ l = 0 := p_ext K (fun i => by rw [rd_co P K hp hφ, hl0, p_zero P, p_zero K]; exact red_zero hφ)
      rw [h5] at hrl
      have hhne : φ (co rest (nu co rest - 1)) ≠ 0 := fun y => hlr ((hφ.2.2.1 _).mp y)
      have := nu_mul K (isF_D hF) (a := mo K (φ (co rest (nu co rest - 1))) 0) (b := pm q (tb set) m) (fun y => by have := mo_N K (k := 0) hhne; rw [(nu_zero K).mpr y] at this; omega) hpm0
      rw [mo_N K 0 hhne, (nu_zero K).mpr hrl.symm] at this
      have : nu ct (pm q (tb set) m) ≠ 0 := fun y => hpm0 ((nu_zero K).mp y)
      omega
    rcases hCs with ⟨z, -⟩ | ⟨-, hlC, hCp, hC1, hCN, hsc⟩
    · exact absurd z hNl0
    · have hltop : co l (nu co l - 1) = co rest (nu co rest - 1) := by
        have hNle : nu co l = nu ct (pm q (tb set) m) := by
          have hhne : φ (co rest (nu co rest - 1)) ≠ 0 := fun y => hlr ((hφ.2.2.1 _).mp y)
          have h5 := nu_mul K (isF_D hF) (a := mo K (φ (co rest (nu co rest - 1))) 0) (b := pm q (tb set) m) (fun y => by have := mo_N K (k := 0) hhne; rw [(nu_zero K).mpr y] at this; omega) hpm0
          rw [mo_N K 0 hhne, ← hrl] at h5
          have h6 : nu ct (rd P K hp hφ l) ≤ nu co l := nu_le K (fun i hi => by rw [rd_co P K hp hφ, nu_hi P l hi]; exact red_zero hφ)
          have h7 : nu co l ≤ nu ct (rd P K hp hφ l) := nu_le P (fun i hi => by
            have h8 : φ (co l i) = φ 0 := by rw [← rd_co P K hp hφ, nu_hi K _ hi]; exact (red_zero hφ).symm
            exact ctr_uq hφ (hl1 i) (by unfold nz; omega) h8)
          omega
        refine ctr_uq hφ (hl1 _) (by unfold nz; omega) ?_
        rw [← rd_co P K hp hφ, hrl, mo_0 K, hNle, hmon]; grind
      have hscp : 0 < sc co l := by
        have := hsc
        unfold sc at this ⊢
        rw [hltop] at this ⊢
        rw [if_neg (by omega)] at this ⊢
        omega
      have c28b : CZ co M17 28 rest := CZ_ch (CZ_ch (CZ_ch (CZ_ch c28 hc7 (by simp)) hc15 (by simp)) hc16 (by simp)) hc17 (by simp)
      obtain ⟨M19, hok19, hc19, hd⟩ := c_divide P hok17 (a := 28) (b := 31) r28 r31 (by decide) (by decide) (by decide) (by decide) c28b cC (fun i => by have := hCX i; have := hl1 i; omega) (fun i => by have := bX i; omega) hn
      have hch : chJ [15, 18, 19, 31] M M19 := chJ_mono (chJ_trans hc7 (chJ_trans hc15 (chJ_trans hc16 (chJ_trans hc17 hc19)))) (fun x hx => by simp at hx ⊢; omega)
      have pre : ∀ X, (f_X2_divides n set M = some X) = ((Option.bind (f_X1_divide n 28 31 M17) fun (v18, M19) => Option.bind (obz v18) fun v20 => some (v20, M19)) = some X) := fun X => by
        unfold f_X2_divides
        have hr1 : r = 1 := by omega
        rw [d29, bs, d28, bs, emax, bs, e4, bs, etf, bs, hr1, gI_s (by omega) (by omega), bs, if_neg (by omega), e6, bs, osJ_n (k := 31) (i := 0) 0 rfl rfl (show 0 < 11 by omega), bs, ← hM7, hL, bs, e16, bs, e17, bs]
      rcases hd with ⟨ed, -, qq, hqq, cqq, -⟩ | ⟨ed, hno⟩
      · refine ⟨M19, hok19, hch, Or.inl ⟨C, qq, ?_, hqq, CZ_ch cC hc19 (by simp), cqq, fac_of P K hp hφ hlr hpm0 hrl hCp hC1 hlC ⟨qq, hqq⟩⟩⟩
        rw [pre, ed, bs]; rfl
      · refine ⟨M19, hok19, hch, Or.inr ⟨?_, fun g hg => ?_⟩⟩
        · rw [pre, ed, bs]; rfl
        · rcases hno with z | z
          · exact prim_ne P hCp ((nu_zero P).mp z)
          · have hCg := fac_lift P K hp hφ hr0 hlr hlp hmon hg (B := 98 * 9999) (fun h i e => hBB g h i e) (by omega) hl1 hrl hscp hCp hC1 hlC
            obtain ⟨y, hy⟩ := hg.2.2.1
            obtain ⟨b3, -, -⟩ := z_bd P hF0 hNF hXF (g := y) ⟨g * w, by rw [hFr, hy]; grind⟩
            exact z ⟨y, by rw [hCg]; exact hy, fun i => by have := b3 i; omega⟩
end MClsD
