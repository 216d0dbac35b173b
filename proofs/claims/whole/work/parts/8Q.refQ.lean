/-! factorModulo: the irreducible factors by the prime -/
section MRefQ
def RSF : List Nat := [10, 11, 12, 17, 18] ++ RSP
def FI {R T : Type} [Lean.Grind.CommRing T] [Lean.Grind.CommRing R] (ct : T → Nat → R) (φ : Int → R) (p : Nat) (M0 : MI) (u0 : T) (M : MI) (m : Nat) (q : Nat → T) : Prop := ok M ∧ chm RSF [10] M0 M ∧ M.1 36 9 = p ∧ PC ct φ p M m q ∧ ∀ j, j < m → irr (nu ct) (q j)
theorem pdn_irr {R T : Type} [Lean.Grind.CommRing T] [Lean.Grind.CommRing R] {ct : T → Nat → R} (K : isPol ct) {p : Nat} (hp : isZp R p) {d : Nat} (hd1 : 1 ≤ d) {f g : T} (hall : ∀ π, irr (nu ct) π → dv π g → nu ct π = d + 1) (hf : dv f g) (hN : nu ct f = d + 1) : irr (nu ct) f := by
  have hE := pol_EU K hp.2.2.1
  have hf0 : f ≠ 0 := fun z => by rw [(nu_zero K).mpr z] at hN; omega
  obtain ⟨π, i1, w, hw⟩ := irr_ex hE _ f (Nat.le_refl _) (by omega)
  have h1 := hall π i1 (dv_trans ⟨w, hw⟩ hf)
  have hw0 : w ≠ 0 := fun z => hf0 (by rw [hw, z]; grind)
  have h2 := nu_mul K (isF_D hp.2.2.1) (irr_ne hE i1) hw0
  rw [← hw] at h2
  refine ⟨by omega, fun a b hab => ?_⟩
  have ha0 : a ≠ 0 := fun z => hf0 (by rw [hab, z]; grind)
  have hb0 : b ≠ 0 := fun z => hf0 (by rw [hab, z]; grind)
  have h3 := nu_mul K (isF_D hp.2.2.1) ha0 hb0
  rw [← hab] at h3
  rcases Nat.lt_or_ge (nu ct a) 2 with z | z
  · have : nu ct a ≠ 0 := fun q => ha0 ((nu_zero K).mp q)
    exact Or.inl (by omega)
  · obtain ⟨ρ, i2, d2⟩ := irr_ex hE _ a (Nat.le_refl _) z
    have h4 := hall ρ i2 (dv_trans d2 (dv_trans ⟨b, hab⟩ hf))
    have h5 := eu_le hE d2 ha0
    have nb : nu ct b ≠ 0 := fun q => hb0 ((nu_zero K).mp q)
    exact Or.inr (by omega)
theorem big_irr {R T : Type} [Lean.Grind.CommRing T] [Lean.Grind.CommRing R] {ct : T → Nat → R} (K : isPol ct) {p : Nat} (hp : isZp R p) {d : Nat} {f : T} (hall : ∀ π, irr (nu ct) π → dv π f → d + 1 ≤ nu ct π) (hN : 2 ≤ nu ct f) (hd : nu ct f ≤ 2 * d) : irr (nu ct) f := by
  have hE := pol_EU K hp.2.2.1
  have hf0 : f ≠ 0 := fun z => by rw [(nu_zero K).mpr z] at hN; omega
  refine ⟨hN, fun a b hab => ?_⟩
  have ha0 : a ≠ 0 := fun z => hf0 (by rw [hab, z]; grind)
  have hb0 : b ≠ 0 := fun z => hf0 (by rw [hab, z]; grind)
  have h3 := nu_mul K (isF_D hp.2.2.1) ha0 hb0
  rw [← hab] at h3
  have na : nu ct a ≠ 0 := fun q => ha0 ((nu_zero K).mp q)
  have nb : nu ct b ≠ 0 := fun q => hb0 ((nu_zero K).mp q)
  rcases Nat.lt_or_ge (nu ct a) 2 with z | z
  · exact Or.inl (by omega)
  · rcases Nat.lt_or_ge (nu ct b) 2 with y | y
    · exact Or.inr (by omega)
    · obtain ⟨ρ, i2, d2⟩ := irr_ex hE _ a (Nat.le_refl _) z
      obtain ⟨σ, i3, d3⟩ := irr_ex hE _ b (Nat.le_refl _) y
      have h4 := hall ρ i2 (dv_trans d2 ⟨b, hab⟩)
      have h5 := hall σ i3 (dv_trans d3 ⟨a, by rw [hab]; grind⟩)
      have h6 := eu_le hE d2 ha0
      have h7 := eu_le hE d3 hb0
      omega
theorem s_factorModulo {R T : Type} [Lean.Grind.CommRing T] [Lean.Grind.CommRing R] {ct : T → Nat → R} (K : isPol ct) {p : Nat} (hp : isZp R p) {φ : Int → R} (hφ : isRed φ p) (hpl : 100000000000 < p) (hp2 : p ≤ 1000000000000) (hod : p % 2 = 1) {M : MI} (hM : ok M) (hm : M.1 36 9 = p) {u0 : T} (hu : RP ct φ p M 12 u0) (hu1 : ct u0 (nu ct u0 - 1) = 1) (hN0 : nu ct u0 ≠ 0) (hN : nu ct u0 ≤ 11) (hsq : sqf (nu ct) u0) {n : Nat} (hn : 18446744073709551616 ≤ n) :
    ∃ M' m q, f_X8_factorModulo n M = some M' ∧ FI ct φ p M u0 M' m q ∧ pdn q m = u0 := by
  have hF := hp.2.2.1
  have hE := pol_EU K hF
  have hu00 : u0 ≠ 0 := fun z => hN0 ((nu_zero K).mpr z)
  have hone : nu ct (1 : T) = 1 := nu_eq K (fun i hi => by rw [p_one K, if_neg (by omega)]) (fun _ => by rw [p_one K, if_pos (by omega)]; exact hF.1)
  have hX : nu ct (mo K (1 : R) 1) = 2 := mo_N K 1 hF.1
  -- the start
  have hc1 := chm_fl (F := [10]) M (i := 10) (by simp) 0
  have hok1 : ok (oI M 36 10 0) := ok_oI hM (by omega)
  have r1 := RP_chm hu hc1 (by simp) (by omega)
  obtain ⟨M2, e2, hok2, hc2, r2⟩ := s_letter K hp hφ hok1 (s := 10) (by omega)
  have e2' : f_X8_letter 10 (oI M 36 10 0) = some M2 := e2
  have hm2 : M2.1 36 9 = p := by rw [hc2.1 36 9 (by omega)]; exact hm
  have ru2 := RP_chg r1 hc2 (by simp) (by omega)
  obtain ⟨M3, q3, h3, e3, hok3, hc3, hq3, hn3, r3, -⟩ := s_rest K hp hφ hok2 (a := 10) (b := 12) (by omega) (by omega) (by omega) (by omega) (by omega) hm2 hp2 r2 ru2 (by omega) (by omega) hN0 hu1 hn
  have e3' : f_X8_rest n 10 12 M2 = some M3 := e3
  have hm3 : M3.1 36 9 = p := by rw [hc3.1 36 9 (by omega)]; exact hm2
  have ru3 := RP_chg ru2 hc3 (by simp) (by omega)
  have hpm3 : M3.2 36 10 = 0 := by rw [hc3.2.1 36 10 (by omega), hc2.2.1 36 10 (by omega), oI_2, if_pos ⟨rfl, rfl⟩]
  have hch3 : chm RSF [10] M M3 := chm_mono (chm_trans hc1 (chm_of (chg_trans hc2 hc3))) (fun x hx => by simp [RSF, RSP] at hx ⊢; omega) (fun x hx => hx)
  obtain ⟨o, hL, M', ho, m, q, hFI, hpd⟩ := lp_do (step := l_X8_factorModulo_21 n) (fun st => ∃ (m : Nat) (q : Nat → T) (d : Nat) (u h : T), st.2 = d ∧ 1 ≤ d ∧ d ≤ 12 ∧ FI ct φ p M u0 st.1 m q ∧ pdn q m * u = u0 ∧ RP ct φ p st.1 12 u ∧ ct u (nu ct u - 1) = 1 ∧ (∀ π, irr (nu ct) π → dv π u → d + 1 ≤ nu ct π) ∧ (2 ≤ nu ct u → RP ct φ p st.1 10 h ∧ nu ct h < nu ct u ∧ dv u (mo K 1 1 ^ (p ^ (d - 1)) - h))) (fun st => (30 - st.2).toNat) (fun o => ∃ M', (o = .inl M' ∨ o = .inr M') ∧ ∃ m q, FI ct φ p M u0 M' m q ∧ pdn q m = u0) (fun st hst => by
    obtain ⟨M1, y⟩ := st
    obtain ⟨m, q, d, u, h, hy, hd1, hd12, hFI, hpd, ru, um, hdeg, hH⟩ := hst
    dsimp only at hy hFI ru hH
    subst hy
    obtain ⟨hok, hch, hm9, hPC, hirr⟩ := id hFI
    obtain ⟨pn1, pn2⟩ := pdn_nu K hF (q := q) (m := m) (fun j hj => (hPC.2 j hj).2.2.1)
    have hune : u ≠ 0 := fun z => hu00 (by rw [← hpd, z]; grind)
    have hnu0 : nu ct u ≠ 0 := fun z => hune ((nu_zero K).mp z)
    have hnm := nu_mul K (isF_D hF) pn2 hune
    rw [hpd] at hnm
    have d6 : odI M1 42 12 = some ((nu ct u : Int) - 1) := by rw [odI_n (i := 12) 12 rfl rfl (by rw [k42.2]; omega)]; exact congrArg some ru.1
    have husq : sqf (nu ct) u := sqf_dv hsq ⟨pdn q m, by rw [← hpd]; grind⟩
    unfold l_X8_factorModulo_21
    dsimp only
    rw [d6, bs, gI_s (by omega) (by omega), bs]
    by_cases hle : (nu ct u : Int) - 1 ≤ 0
    · rw [if_pos hle]
      refine Or.inl ⟨_, rfl, M1, Or.inr rfl, m, q, hFI, ?_⟩
      have hu1 : u = 1 := p_ext K (fun i => by
        rw [p_one K]
        by_cases z : i = 0
        · rw [if_pos z, z]; rw [show nu ct u - 1 = 0 by omega] at um; exact um
        · rw [if_neg z, nu_hi K u (by omega)])
      rw [← hpd, hu1]; grind
    · rw [if_neg hle, bs, gI_s (by omega) (by omega), bs]
      obtain ⟨rH, hhn, hhd⟩ := hH (by omega)
      by_cases h2d : (2 : Int) * d ≤ (nu ct u : Int) - 1
      · rw [if_pos h2d]
        -- the power of the letter
        obtain ⟨Ma, ea, hoka, hca, ra⟩ := s_copyP hok (a := 10) (b := 16) (by omega) (by omega) rH (by omega) hn
        have ea' : f_X8_copy n 10 16 M1 = some Ma := ea
        have hma : Ma.1 36 9 = p := by rw [hca.1 36 9 (by omega)]; exact hm9
        have rua := RP_chg ru hca (by simp) (by omega)
        obtain ⟨Mb, h', eb, hokb, hcb, hh', hn', rb⟩ := s_raise K hp hφ hoka (a := 16) (c := 12) (d := 10) (by omega) (by omega) (by omega) (by omega) (by omega) (by omega) (by omega) (by omega) (by omega) (by omega) hma hp2 ra rua (by omega) (by omega) (by omega) um (e := p) (by omega) hn
        have eb' : f_X8_raise n 16 p 12 10 Ma = some Mb := eb
        have rub := RP_chg rua hcb (by simp) (by omega)
        have hmb : Mb.1 36 9 = p := by rw [hcb.1 36 9 (by omega)]; exact hma
        have hhd' : dv u (mo K 1 1 ^ (p ^ d) - h') := by
          have h7 := cg_pw hhd p
          rw [← pw_mul, ← Nat.pow_succ, show (d - 1).succ = d by omega] at h7
          exact cg_trans h7 hh'
        obtain ⟨Mc, ec, hokc, hcc, rc⟩ := s_copyP hokb (a := 10) (b := 11) (by omega) (by omega) rb (by omega) hn
        have ec' : f_X8_copy n 10 11 Mb = some Mc := ec
        have hmc : Mc.1 36 9 = p := by rw [hcc.1 36 9 (by omega)]; exact hmb
        obtain ⟨Md, ed, hokd, hcd, rd'⟩ := s_lessLetter K hp hφ hokc (s := 11) (by omega) hmc hp2 rc (by omega) hn
        have ed' : f_X8_lessLetter n 11 Mc = some Md := ed
        have rud := RP_chg (RP_chg rub hcc (by simp) (by omega)) hcd (by simp) (by omega)
        obtain ⟨Me, ee, hoke, hce, re⟩ := s_copyP hokd (a := 12) (b := 17) (by omega) (by omega) rud (by omega) hn
        have ee' : f_X8_copy n 12 17 Md = some Me := ee
        have hme : Me.1 36 9 = p := by rw [hce.1 36 9 (by omega), hcd.1 36 9 (by omega)]; exact hmc
        have hnT : nu ct (h' - mo K 1 1) ≤ 24 := nu_le K (fun i hi => by rw [p_sub K, nu_hi K h' (by omega), mo_co K, if_neg (by omega)]; grind)
        have rTe := RP_chg rd' hce (by simp) hnT
        obtain ⟨Mf, g, ug, vg, ef, hokf, hcf, rf, hg, hgu, hgT, gmon⟩ := s_commonRow K hp hφ hoke (a := 17) (b := 11) (c := 18) (by omega) (by omega) (by omega) (by omega) (by omega) (by omega) hme hp2 re rTe (by omega) hnT hn
        have ef' : f_X8_commonRow n 17 11 18 Me = some Mf := ef
        have hg0 : g ≠ 0 := fun z => hune (by obtain ⟨w, hw⟩ := hgu; rw [hw, z]; grind)
        have gmon := gmon hg0
        have hng0 : nu ct g ≠ 0 := fun z => hg0 ((nu_zero K).mp z)
        have hngu := eu_le hE hgu hune
        have hmf : Mf.1 36 9 = p := by rw [hcf.1 36 9 (by omega)]; exact hme
        have d14 : odI Mf 42 18 = some ((nu ct g : Int) - 1) := by rw [odI_n (i := 18) 18 rfl rfl (by rw [k42.2]; omega)]; exact congrArg some rf.1
        have hcaf : chg [16, 8, 3, 9, 10, 11, 17, 18] M1 Mf := chg_mono (chg_trans hca (chg_trans hcb (chg_trans hcc (chg_trans hcd (chg_trans hce hcf))))) (fun x hx => by simp at hx ⊢; omega)
        have hPCf := PC_chm hPC (chm_of (F := []) hcaf) (fun s hs => by simp at hs; omega)
        have ruf := RP_chg ru hcaf (by simp) (by omega)
        have rHf := RP_chg (RP_chg (RP_chg (RP_chg rb hcc (by simp) (by omega)) hcd (by simp) (by omega)) hce (by simp) (by omega)) hcf (by simp) (by omega)
        have hchf : chm RSF [10] M Mf := chm_mono (chm_trans hch (chm_of hcaf)) (fun x hx => by simp [RSF, RSP] at hx ⊢; omega) (fun x hx => hx)
        -- which irreducible ones lie in g
        have key : ∀ π, irr (nu ct) π → dv π u → (dv π g ↔ nu ct π = d + 1) := fun π i1 d1 => by
          have hc : dv π (h' - mo K 1 1) ↔ dv π (mo K 1 1 ^ (p ^ d) - mo K 1 1) := by
            have h5 := dv_trans d1 hhd'
            constructor
            · intro h6; exact cg_trans h5 h6
            · intro h6; exact cg_trans (cg_symm h5) h6
          have h8 := hdeg π i1 d1
          have h9 := conj_iff K hp i1 (d := d)
          constructor
          · intro h5
            have h6 := Nat.le_of_dvd (by omega) (h9.mp (hc.mp (dv_trans h5 hgT)))
            omega
          · intro h5
            have h6 := hc.mpr (h9.mpr (by rw [h5, show d + 1 - 1 = d by omega]; exact Nat.dvd_refl d))
            rw [hg]
            exact dv_add (dv_mull _ d1) (dv_mull _ h6)
        rw [ea', bs, hma, eb', bs, ec', bs, ed', bs, ee', bs, ef', bs, d14, bs, gI_s (by omega) (by omega), bs]
        by_cases hg1 : (nu ct g : Int) - 1 ≤ 0
        · rw [if_pos hg1, bs]
          refine Or.inr ⟨_, rfl, ⟨m, q, d + 1, u, h', by dsimp only; omega, by omega, by omega, ⟨hokf, hchf, hmf, hPCf, hirr⟩, hpd, ruf, um, fun π i1 d1 => ?_, fun _ => ⟨rHf, hn', by rw [show d + 1 - 1 = d by omega]; exact hhd'⟩⟩, by dsimp only; omega⟩
          have h5 := hdeg π i1 d1
          rcases Nat.lt_or_ge (d + 1) (nu ct π) with z | z
          · omega
          · have h6 := (key π i1 d1).mpr (by omega)
            have h7 := eu_le hE h6 hg0
            have := i1.1
            omega
        · rw [if_neg hg1]
          have hpmf : Mf.2 36 10 = m := hPCf.1
          obtain ⟨Mg, eg, hokg, hcg, hpmg, rg, hmdg⟩ := s_addPart hokf (s := 18) (m := m) (by omega) hpmf (by omega) rf (by omega) hn
          have eg' : f_X8_addPart n 18 Mf = some Mg := eg
          have rug := RP_chm ruf hcg (by simp; omega) (by omega)
          obtain ⟨Mh, eh, hokh, hcgh, rh⟩ := s_copyP hokg (a := 12) (b := 17) (by omega) (by omega) rug (by omega) hn
          have eh' : f_X8_copy n 12 17 Mg = some Mh := eh
          have rgh := RP_chg (RP_chm rf hcg (by simp; omega) (by omega)) hcgh (by simp) (by omega)
          have hmh : Mh.1 36 9 = p := by rw [hcgh.1 36 9 (by omega), hmdg]; exact hmf
          obtain ⟨Mi, w, r, ei, hoki, hci, hw, hrn, rri, rqi⟩ := s_rest K hp hφ hokh (a := 17) (b := 18) (by omega) (by omega) (by omega) (by omega) (by omega) hmh hp2 rh rgh (by omega) (by omega) hng0 gmon hn
          have ei' : f_X8_rest n 17 18 Mh = some Mi := ei
          have rqi := rqi (by omega)
          have hr0 : r = 0 := by
            obtain ⟨x, hx⟩ := hgu
            have h1 : dv g r := ⟨x - w, by grind⟩
            apply Classical.byContradiction
            intro h2
            have := eu_le hE h1 h2
            omega
          have hwg : w * g = u := by rw [hw, hr0]; grind
          have hw0 : w ≠ 0 := fun z => hune (by rw [← hwg, z]; grind)
          have hNw := nu_mul K (isF_D hF) hw0 hg0
          rw [hwg] at hNw
          have hnw0 : nu ct w ≠ 0 := fun z => hw0 ((nu_zero K).mp z)
          have hwm : ct w (nu ct w - 1) = 1 := by
            have h1 := mul_top K (a := w) (b := g) (n := nu ct w - 1) (m := nu ct g - 1) (fun i hi => nu_hi K w (by omega)) (fun i hi => nu_hi K g (by omega))
            rw [hwg, show nu ct w - 1 + (nu ct g - 1) = nu ct u - 1 by omega, um, gmon] at h1
            rw [h1]; grind
          obtain ⟨Mj, ej, hokj, hcj, rj⟩ := s_copyP hoki (a := 3) (b := 12) (by omega) (by omega) rqi (by omega) hn
          have ej' : f_X8_copy n 3 12 Mi = some Mj := ej
          have hcgj : chg [17, 3, 12] Mg Mj := chg_mono (chg_trans hcgh (chg_trans hci hcj)) (fun x hx => by simp at hx ⊢; omega)
          obtain ⟨q1, hq1⟩ : ∃ q1 : Nat → T, q1 = fun i => if i = m then g else q i := ⟨_, rfl⟩
          have q1m : q1 m = g := by rw [hq1]; dsimp only; rw [if_pos rfl]
          have q1o : ∀ i, i ≠ m → q1 i = q i := fun i h1 => by rw [hq1]; dsimp only; rw [if_neg h1]
          have hPCj : PC ct φ p Mj (m + 1) q1 := ⟨by rw [hcgj.2.1 36 10 (by omega), hpmg]; omega, fun i hi => by
            by_cases z : i = m
            · rw [z, q1m]
              exact ⟨RP_chg rg hcgj (by simp; omega) (by omega), gmon, by omega, by omega⟩
            · rw [q1o i z]
              obtain ⟨a1, a2⟩ := hPCf.2 i (by omega)
              exact ⟨RP_chg (RP_chm a1 hcg (by simp; omega) (by omega)) hcgj (by simp; omega) (by omega), a2⟩⟩
          have hmj : Mj.1 36 9 = p := by rw [hcgj.1 36 9 (by omega), hmdg]; exact hmf
          have hpd1 : pdn q1 (m + 1) = pdn q m * g := by
            show pdn q1 m * q1 m = _
            rw [q1m, pdn_congr (fun i hi => q1o i (by omega))]
          have hG : nu ct (pdn q1 (m + 1)) ≤ 11 := by
            rw [hpd1]
            have h1 : dv (pdn q m * g) u0 := ⟨w, by rw [← hpd, ← hwg]; grind⟩
            have := eu_le hE h1 hu00
            omega
          obtain ⟨Mk, m', q', ek, hSI⟩ := s_splitAll K hp hφ hpl hp2 hod hd1 (by omega) hokj hmj hPCj hG (by rw [q1m]; exact sqf_dv husq hgu) (fun π i1 d1 => by rw [q1m] at d1; exact (key π i1 (dv_trans d1 hgu)).mp d1) hn
          obtain ⟨hokk, hchk, hmk, hPCk, hk1, hk2, hk3, hk4, -, -⟩ := hSI
          have hirr' : ∀ j, j < m' → irr (nu ct) (q' j) := fun j hj => by
            rcases Nat.lt_or_ge j m with z | z
            · rw [hk1 j z, q1o j (by omega)]; exact hirr j z
            · have h1 := hk3 j z hj
              rw [q1m] at h1
              exact pdn_irr K hp hd1 (fun π i1 d1 => (key π i1 (dv_trans d1 hgu)).mp d1) h1 (hk2 j z hj)
          have rwk := RP_chm rj hchk (by simp [RSP]) (by omega)
          have rHk := RP_chm (RP_chg (RP_chm rHf hcg (by simp; omega) (by omega)) hcgj (by simp) (by omega)) hchk (by simp [RSP]) (by omega)
          have hchk' : chm RSF [10] M Mk := chm_mono (chm_trans hchf (chm_trans hcg (chm_trans (chm_of hcgj) hchk))) (fun x hx => by simp [RSF, RSP] at hx ⊢; omega) (fun x hx => hx)
          have hpd' : pdn q' m' * w = u0 := by rw [hk4, hpd1, ← hpd, ← hwg]; grind
          have hdeg' : ∀ π, irr (nu ct) π → dv π w → d + 1 + 1 ≤ nu ct π := fun π i1 d1 => by
            have d1u : dv π u := dv_trans d1 ⟨g, hwg.symm⟩
            have h5 := hdeg π i1 d1u
            rcases Nat.lt_or_ge (d + 1) (nu ct π) with z | z
            · omega
            · obtain ⟨x, hx⟩ := (key π i1 d1u).mpr (by omega)
              obtain ⟨y, hy⟩ := d1
              exact (husq π i1 ⟨x * y, by rw [← hwg, hx, hy]; grind⟩).elim
          have d20 : odI Mk 42 12 = some ((nu ct w : Int) - 1) := by rw [odI_n (i := 12) 12 rfl rfl (by rw [k42.2]; omega)]; exact congrArg some rwk.1
          rw [eg', bs, eh', bs, ei', bs, ej', bs, hpmf, ek, bs, d20, bs, gI_s (by omega) (by omega), bs]
          by_cases hw1 : (nu ct w : Int) - 1 ≤ 0
          · rw [if_pos hw1, bs]
            exact Or.inr ⟨_, rfl, ⟨m', q', d + 1, w, h', by dsimp only; omega, by omega, by omega, ⟨hokk, hchk', hmk, hPCk, hirr'⟩, hpd', rwk, hwm, hdeg', fun z => absurd z (by omega)⟩, by dsimp only; omega⟩
          · obtain ⟨Ml, ql, rl, el, hokl, hcl, hql, hrl, rrl, -⟩ := s_rest K hp hφ hokk (a := 10) (b := 12) (by omega) (by omega) (by omega) (by omega) (by omega) hmk hp2 rHk rwk (by omega) (by omega) hnw0 hwm hn
            have el' : f_X8_rest n 10 12 Mk = some Ml := el
            rw [if_neg hw1, el', bs, bs]
            refine Or.inr ⟨_, rfl, ⟨m', q', d + 1, w, rl, by dsimp only; omega, by omega, by omega, ⟨hokl, chm_mono (chm_trans hchk' (chm_of hcl)) (fun x hx => by simp [RSF, RSP] at hx ⊢; omega) (fun x hx => hx), by rw [hcl.1 36 9 (by omega)]; exact hmk, PC_chm hPCk (chm_of hcl) (fun s hs => by simp at hs; omega), hirr'⟩, hpd', RP_chg rwk hcl (by simp) (by omega), hwm, hdeg', fun _ => ⟨rrl, hrl, ?_⟩⟩, by dsimp only; omega⟩
            rw [show d + 1 - 1 = d by omega]
            have h1 := dv_trans (⟨g, hwg.symm⟩ : dv w u) hhd'
            have h2 : dv w (h' - rl) := ⟨ql, by rw [hql]; grind⟩
            exact cg_trans h1 h2
      · rw [if_neg h2d]
        obtain ⟨Mg, eg, hokg, hcg, hpmg, rg, hmdg⟩ := s_addPart hok (s := 12) (m := m) (by omega) hPC.1 (by omega) ru (by omega) hn
        have eg' : f_X8_addPart n 12 M1 = some Mg := eg
        rw [eg', bs]
        obtain ⟨q1, hq1⟩ : ∃ q1 : Nat → T, q1 = fun i => if i = m then u else q i := ⟨_, rfl⟩
        have q1m : q1 m = u := by rw [hq1]; dsimp only; rw [if_pos rfl]
        have q1o : ∀ i, i ≠ m → q1 i = q i := fun i h1 => by rw [hq1]; dsimp only; rw [if_neg h1]
        refine Or.inl ⟨_, rfl, Mg, Or.inl rfl, m + 1, q1, ⟨hokg, chm_mono (chm_trans hch hcg) (fun x hx => by simp [RSF, RSP] at hx ⊢; omega) (fun x hx => hx), by rw [hmdg]; exact hm9, ⟨by rw [hpmg]; omega, fun i hi => ?_⟩, fun i hi => ?_⟩, ?_⟩
        · by_cases z : i = m
          · rw [z, q1m]
            exact ⟨rg, um, by omega, by omega⟩
          · rw [q1o i z]
            obtain ⟨a1, a2⟩ := hPC.2 i (by omega)
            exact ⟨RP_chm a1 hcg (by simp; omega) (by omega), a2⟩
        · by_cases z : i = m
          · rw [z, q1m]; exact big_irr K hp hdeg (by omega) (by omega)
          · rw [q1o i z]; exact hirr i (by omega)
        · show pdn q1 m * q1 m = _
          rw [q1m, pdn_congr (fun i hi => q1o i (by omega)), hpd]) n (M3, 1) ⟨0, fun _ => 0, 1, u0, h3, rfl, by omega, by omega, ⟨hok3, hch3, hm3, ⟨by rw [hpm3]; rfl, fun j hj => absurd hj (by omega)⟩, fun j hj => absurd hj (by omega)⟩, by simp only [pdn]; grind, ru3, hu1, fun π i1 _ => by have := i1.1; omega, fun _ => ⟨r3, hn3, by rw [Nat.sub_self, Nat.pow_zero, pw1]; exact ⟨q3, by rw [hq3]; grind⟩⟩⟩ (by dsimp only; omega)
  refine ⟨M', m, q, ?_, hFI, hpd⟩
  unfold f_X8_factorModulo
  show Option.bind (opI M 36 10 0) _ = _
  unfold opI
  rw [bs, e2', bs, e3', bs, hL, bs]
  rcases ho with ho | ho <;> rw [ho]
end MRefQ
