/-! the reference's parts -/
section MParts2
theorem FL_unit {R T : Type} [Lean.Grind.CommRing R] [Lean.Grind.CommRing T] {ct : T → Nat → R} (K : isPol ct) (hF : isF R) {f : T} {c : R} (hc : c ≠ 0) {L : List T} (h : FL (nu ct) f L) : FL (nu ct) (mo K c 0 * f) L := by
  obtain ⟨h1, h2, h3⟩ := h
  obtain ⟨d, -, hd⟩ := mo_inv K hF hc
  refine ⟨fun π hπ => ⟨(h1 π hπ).1, dv_mull _ (h1 π hπ).2⟩, h2, fun ρ hρ hd2 => h3 ρ hρ ?_⟩
  have := dv_mull (mo K d 0) hd2
  rw [show mo K d 0 * (mo K c 0 * f) = (mo K d 0 * mo K c 0) * f by grind, hd, show (1 : T) * f = f by grind] at this
  exact this
theorem s_partsL {R T : Type} [Lean.Grind.CommRing R] [Lean.Grind.CommRing T] {ct : T → Nat → R} (K : isPol ct) {p : Nat} (hp : isZp R p) {φ : Int → R} (hφ : isRed φ p) (hp97 : p ≤ 97) {f : T} (hf1 : ct f (nu ct f - 1) = 1) (hN : nu ct f ≤ 11) (hN2 : 2 ≤ nu ct f) {L : List T} (hL : FL (nu ct) f L) {M : MI} (hM : ok M) (hm : M.1 36 9 = p) (r0 : RP ct φ p M 0 f) {h0 : T} (r10 : RP ct φ p M 10 h0) (hh0 : nu ct h0 < nu ct f) (hd0 : dv f (mo K 1 1 - h0)) {n : Nat} (hn : 18446744073709551616 ≤ n) :
    ∃ M', lpF (l_X8_parts_106 n p ((nu ct f : Int) - 1)) n (M, 0, 1) = some (M', ((L.length : Nat) : Int)) ∧ ok M' ∧ kq M M' := by
  have hF := hp.2.2.1
  have hE := pol_EU K hF
  have hp2 := hp.1.1
  have hf0 : f ≠ 0 := fun z => by rw [(nu_zero K).mpr z] at hN2; omega
  have hone : (1 : T) ≠ 0 := fun z => by
    have := p_one K (S := T) 0
    rw [z, p_zero K, if_pos rfl] at this
    exact hF.1 this.symm
  have hLl := FL_len K hF hf0 hL
  have hcl : ∀ e, cnD ct L e ≤ 10 := fun e => by have := cnD_le (ct := ct) L e; omega
  have hL2 : ∀ π ∈ L, 2 ≤ nu ct π ∧ nu ct π ≤ nu ct f - 1 + 1 := fun π hπ => by
    have h1 := (hL.1 π hπ).1.1
    have h2 := eu_le hE (hL.1 π hπ).2 hf0
    omega
  obtain ⟨⟨M', al⟩, hLp, h1, h2, h3⟩ := lp_do (step := l_X8_parts_106 n p ((nu ct f : Int) - 1)) (fun st => ok st.1 ∧ kq M st.1 ∧ ∃ (d : Nat) (h : T), st.2.2 = d ∧ 1 ≤ d ∧ d ≤ nu ct f ∧ st.1.1 36 9 = p ∧ RP ct φ p st.1 0 f ∧ RP ct φ p st.1 10 h ∧ nu ct h < nu ct f ∧ dv f (mo K 1 1 ^ (p ^ (d - 1)) - h) ∧ (∀ e, 1 ≤ e → e < d → st.1.2 45 e = (cnD ct L e : Nat)) ∧ st.2.1 = sm (fun i => ((cnD ct L (i + 1) : Nat) : Int)) (d - 1)) (fun st => (40 - st.2.2).toNat) (fun r => ok r.1 ∧ kq M r.1 ∧ r.2 = ((L.length : Nat) : Int)) (fun st hst => by
    obtain ⟨M1, al, y⟩ := st
    obtain ⟨k1, k2, d, h, hy, hd1, hdN, hm1, rf, rh, hhn, hhd, hpd, hal⟩ := hst
    dsimp only at k1 k2 hy hm1 rf rh hpd hal
    subst hy
    have halb : 0 ≤ al ∧ al ≤ 1000 := by
      rw [hal]
      have hb : ∀ k, k ≤ 11 → 0 ≤ sm (fun i => ((cnD ct L (i + 1) : Nat) : Int)) k ∧ sm (fun i => ((cnD ct L (i + 1) : Nat) : Int)) k ≤ k * 10 := by
        intro k
        induction k with
        | zero => intro _; simp [sm]
        | succ k ih =>
          intro hk
          have := ih (by omega)
          rw [sm_succ]
          have := hcl (k + 1)
          omega
      have := hb (d - 1) (by omega)
      omega
    unfold l_X8_parts_106
    dsimp only
    rw [gI_s (by omega) (by omega), bs]
    by_cases hlt : (nu ct f : Int) - 1 < d
    · rw [if_pos hlt]
      refine Or.inl ⟨_, rfl, k1, k2, ?_⟩
      dsimp only
      rw [hal, show d - 1 = nu ct f - 1 by omega]
      exact cn_all L hL2
    · rw [if_neg hlt]
      obtain ⟨Ma, ea, hoka, hca, ra⟩ := s_copyP k1 (a := 10) (b := 16) (by omega) (by omega) rh (by omega) hn
      have ea' : f_X8_copy n 10 16 M1 = some Ma := ea
      have hma : Ma.1 36 9 = p := by rw [hca.1 36 9 (by omega)]; exact hm1
      have rfa := RP_chg rf hca (by simp) (by omega)
      obtain ⟨Mb, h', eb, hokb, hcb, hh', hn', rb⟩ := s_raise K hp hφ hoka (a := 16) (c := 0) (d := 10) (by omega) (by omega) (by omega) (by omega) (by omega) (by omega) (by omega) (by omega) (by omega) (by omega) hma (by omega) ra rfa (by omega) (by omega) (by omega) hf1 (e := p) (by omega) hn
      have eb' : f_X8_raise n 16 p 0 10 Ma = some Mb := eb
      have rfb := RP_chg rfa hcb (by simp) (by omega)
      have hmb : Mb.1 36 9 = p := by rw [hcb.1 36 9 (by omega)]; exact hma
      have hhd' : dv f (mo K 1 1 ^ (p ^ d) - h') := by
        have h7 := cg_pw hhd p
        rw [← pw_mul, ← Nat.pow_succ, show (d - 1).succ = d by omega] at h7
        exact cg_trans h7 hh'
      obtain ⟨Mc, ec, hokc, hcc, rc⟩ := s_copyP hokb (a := 10) (b := 11) (by omega) (by omega) rb (by omega) hn
      have ec' : f_X8_copy n 10 11 Mb = some Mc := ec
      have hmc : Mc.1 36 9 = p := by rw [hcc.1 36 9 (by omega)]; exact hmb
      obtain ⟨Md, ed, hokd, hcd, rd'⟩ := s_lessLetter K hp hφ hokc (s := 11) (by omega) hmc (by omega) rc (by omega) hn
      have ed' : f_X8_lessLetter n 11 Mc = some Md := ed
      have rfd := RP_chg (RP_chg rfb hcc (by simp) (by omega)) hcd (by simp) (by omega)
      obtain ⟨Me, ee, hoke, hce, re⟩ := s_copyP hokd (a := 0) (b := 17) (by omega) (by omega) rfd (by omega) hn
      have ee' : f_X8_copy n 0 17 Md = some Me := ee
      have hme : Me.1 36 9 = p := by rw [hce.1 36 9 (by omega), hcd.1 36 9 (by omega)]; exact hmc
      have hnT : nu ct (h' - mo K 1 1) ≤ 24 := nu_le K (fun i hi => by rw [p_sub K, nu_hi K h' (by omega), mo_co K, if_neg (by omega)]; grind)
      have rTe := RP_chg rd' hce (by simp) hnT
      obtain ⟨Mf, g, ug, vg, ef, hokf, hcf, rg, hg, hgu, hgT, gmon⟩ := s_commonRow K hp hφ hoke (a := 17) (b := 11) (c := 18) (by omega) (by omega) (by omega) (by omega) (by omega) (by omega) hme (by omega) re rTe (by omega) hnT hn
      have ef' : f_X8_commonRow n 17 11 18 Me = some Mf := ef
      have hcaf : chg [16, 8, 3, 9, 10, 11, 17, 18] M1 Mf := chg_mono (chg_trans hca (chg_trans hcb (chg_trans hcc (chg_trans hcd (chg_trans hce hcf))))) (fun x hx => by simp at hx ⊢; omega)
      -- the degree of the common divisor
      obtain ⟨k, hk⟩ := hhd'
      have hw : mo K 1 1 ^ (p ^ d) - mo K 1 1 = (h' - mo K 1 1) + f * k := by rw [← hk]; grind
      have hgw : dv g (mo K 1 1 ^ (p ^ d) - mo K 1 1) := by rw [hw]; exact dv_add hgT (dv_mulr _ hgu)
      have hgc : g = (ug - vg * k) * f + vg * (mo K 1 1 ^ (p ^ d) - mo K 1 1) := by rw [hw, hg]; grind
      have hw0 : mo K (1 : R) 1 ^ (p ^ d) - mo K 1 1 ≠ 0 := by
        have hpd1 : 1 < p ^ d := Nat.one_lt_pow (by omega) (by omega)
        intro z
        have h1 : ct (mo K (1 : R) 1 ^ (p ^ d) - mo K 1 1) (p ^ d) = 0 := by rw [z, p_zero K]
        rw [mo_pw K, p_sub K, mo_co K, mo_co K, if_pos (by omega), if_neg (by omega), pw_one] at h1
        exact hF.1 (by rw [← h1]; grind)
      have hNg := gcd_N hE hone hL (Xq_sqf K hp hd1) hw0 hgu hgw hgc (L.filter (fun π => decide (nu ct π - 1 ∣ d))) (List.Pairwise.filter _ hL.2.1) (fun π => by
        rw [List.mem_filter]
        constructor
        · rintro ⟨h1, h2⟩
          exact ⟨h1, (conj_iff K hp (hL.1 π h1).1).mpr (of_decide_eq_true h2)⟩
        · rintro ⟨h1, h2⟩
          exact ⟨h1, decide_eq_true ((conj_iff K hp (hL.1 π h1).1).mp h2)⟩)
      have hls := ls_div (ct := ct) hd1 L (fun π hπ => (hL2 π hπ).1)
      have d24 : odI Mf 42 18 = some (((nu ct g - 1 : Nat)) : Int) := by rw [odI_n (i := 18) 18 rfl rfl (by rw [k42.2]; omega)]; refine congrArg some ?_; rw [show Mf.2 42 18 = (nu ct g : Int) - 1 from rg.1]; omega
      have hg0 : g ≠ 0 := fun z => hf0 (by obtain ⟨w, hw⟩ := hgu; rw [hw, z]; grind)
      have hng := eu_le hE hgu hf0
      have hI := s_partsI (c := fun e => cnD ct L e) (d := d) (D := nu ct g - 1) hd1 (by omega) (M := Mf) (fun e h1 h2 => by rw [hcaf.2.1 45 e (by omega)]; exact hpd e h1 h2) (fun e => by have := hcl e; omega) (by omega) hn
      have hval : ((nu ct g - 1 : Nat) : Int) - sm (fun i => if (i + 1) ∣ d then ((i + 1 : Nat) : Int) * (cnD ct L (i + 1) : Nat) else 0) (d - 1) = (d : Int) * (cnD ct L d : Nat) := by
        obtain ⟨d', rfl⟩ : ∃ d', d = d' + 1 := ⟨d - 1, by omega⟩
        rw [sm_succ, if_pos (Nat.dvd_refl _)] at hls
        rw [show d' + 1 - 1 = d' by omega]
        omega
      rw [hval] at hI
      have hcd10 := hcl d
      have hdc : 0 ≤ (d : Int) * (cnD ct L d : Nat) ∧ (d : Int) * (cnD ct L d : Nat) ≤ 11 * 10 := ⟨Int.mul_nonneg (by omega) (by omega), Int.mul_le_mul (by omega) (by omega) (by omega) (by omega)⟩
      have hq : oqI ((d : Int) * (cnD ct L d : Nat)) d = some ((cnD ct L d : Nat) : Int) := by
        unfold oqI
        rw [if_pos ⟨by omega, by omega, by omega, by omega⟩, Int.mul_tdiv_cancel_left _ (by omega)]
      rw [ea', bs, gI_s (by omega) (by omega), bs, eb', bs, ec', bs, ed', bs, ee', bs, ef', bs, d24, bs, hI, bs, hq, bs, osI_n d rfl rfl (by rw [k45.2]; omega), bs, bs]
      have hmf : Mf.1 36 9 = p := by rw [hcf.1 36 9 (by omega)]; exact hme
      refine Or.inr ⟨_, rfl, ⟨ok_oI hokf (by omega), kq_trans k2 (kq_trans (kq_chg hcaf) ⟨fun _ _ _ _ => rfl, fun k i _ b => by rw [oI_2, if_neg (fun z => b z.1)]⟩), d + 1, h', by dsimp only; omega, by omega, by omega, hmf, RP_45 (RP_chg rf hcaf (by simp) (by omega)) d _, RP_45 (RP_chg (RP_chg (RP_chg (RP_chg rb hcc (by simp) (by omega)) hcd (by simp) (by omega)) hce (by simp) (by omega)) hcf (by simp) (by omega)) d _, hn', by rw [show d + 1 - 1 = d by omega]; exact ⟨k, hk⟩, fun e h1 h2 => ?_, ?_⟩, by dsimp only; omega⟩
      · dsimp only
        rw [oI_2]
        by_cases z : e = d
        · rw [if_pos ⟨rfl, z⟩, z]
        · rw [if_neg (fun q => z q.2), hcaf.2.1 45 e (by omega)]; exact hpd e h1 (by omega)
      · dsimp only
        obtain ⟨d', rfl⟩ : ∃ d', d = d' + 1 := ⟨d - 1, by omega⟩
        rw [hal, show d' + 1 + 1 - 1 = d' + 1 by omega, show d' + 1 - 1 = d' by omega, sm_succ]) n (M, 0, 1) ⟨hM, kq_refl M, 1, h0, rfl, by omega, by omega, hm, r0, r10, hh0, by rw [Nat.sub_self, Nat.pow_zero, pw1]; exact hd0, fun e h1 h2 => absurd h1 (by omega), rfl⟩ (by dsimp only; omega)
  dsimp only at h1 h2 h3
  rw [h3] at hLp
  exact ⟨M', hLp, h1, h2⟩
theorem ko_kq {M M' : MI} (h : kq M M') : ko M M' := ⟨h.1, fun k i a => h.2 k i (by omega) (by omega)⟩
theorem sm8_kq {M M' : MI} (h : kq M M') : sm8 M M' := ⟨fun i => h.2 38 i (by omega) (by omega), fun i => h.2 39 i (by omega) (by omega), fun i => h.2 40 i (by omega) (by omega), h.2 36 2 (by omega) (by omega), h.2 36 4 (by omega) (by omega)⟩
theorem kq_md (M : MI) (z : Int) : kq M (oJ M 36 9 z) := ⟨fun k i _ h => by rw [oJ_1, if_neg h], fun _ _ _ _ => rfl⟩
theorem s_parts8 {S : Type} [Lean.Grind.CommRing S] {co : S → Nat → Int} (P : isPol co) {M : MI} (hM : ok M) (hbd : bd8 M) {a b : Int} (ha : inI a) (hb : inI b) {n : Nat} (hn : 18446744073709551616 ≤ n) : ∃ r M', f_X8_parts n a b M = some (r, M') ∧ ok M' ∧ ko M M' ∧ sm8 M M' ∧ ((¬ (0 ≤ a ∧ a < 80) ∧ M'.2 36 3 = 1) ∨ ((0 ≤ a ∧ a < 80) ∧ ¬ (2 ≤ b ∧ b ≤ 97 ∧ prm b.toNat) ∧ M'.2 36 3 = 2) ∨ ((0 ≤ a ∧ a < 80) ∧ (2 ≤ b ∧ b ≤ 97 ∧ prm b.toNat) ∧ M'.2 36 3 = 0 ∧ (((nu co (po8 P M a.toNat) = 0 ∨ b ∣ co (po8 P M a.toNat) (nu co (po8 P M a.toNat) - 1)) ∧ r = -1) ∨ (nu co (po8 P M a.toNat) ≠ 0 ∧ ¬ b ∣ co (po8 P M a.toNat) (nu co (po8 P M a.toNat) - 1) ∧ ∀ {R T : Type} [Lean.Grind.CommRing R] [Lean.Grind.CommRing T] {ct : T → Nat → R} (K : isPol ct) (hp : isZp R b.toNat) {φ : Int → R} (hφ : isRed φ b.toNat) {L : List T}, FL (nu ct) (rd P K hp hφ (po8 P M a.toNat)) L → r = (L.length : Nat))))) := by
  by_cases h1 : 0 ≤ a ∧ a < 80
  · rcases s_isPrime8 hb hn with ⟨hpr, ep⟩ | ⟨hnp, ep⟩
    · obtain ⟨M1, e1, hok1, hko1, hsm1, ht1, r1⟩ := s_ld8 P hM (p := a.toNat) (by omega) hn
      rw [show ((a.toNat : Nat) : Int) = a by omega] at e1
      have nA := po8_N P M a.toNat
      have xA := po8_X P hbd (p := a.toNat) (by omega)
      obtain ⟨A, hA⟩ : ∃ A, po8 P M a.toNat = A := ⟨_, rfl⟩
      rw [hA] at nA xA r1 ⊢
      obtain ⟨p, hpb⟩ : ∃ p : Nat, b = p := ⟨b.toNat, by omega⟩
      subst hpb
      rw [Int.toNat_natCast] at hpr ⊢
      have d6 : odI M1 42 0 = some ((nu co A : Int) - 1) := by rw [odI_n (i := 0) 0 rfl rfl (by rw [k42.2]; omega)]; exact congrArg some r1.1
      have hok2 : ok (oJ M1 36 9 p) := ok_oJ hok1 (by omega)
      have hc2 := chm_md [] M1 p
      have hm2 : (oJ M1 36 9 p).1 36 9 = p := by rw [oJ_1, if_pos ⟨rfl, rfl⟩]
      have r2 := RZ_chm r1 hc2 (by simp) (by omega)
      obtain ⟨R0, T0, I0, J0, ct0, φ0, K0, hp0, hφ0⟩ := zp_ex hpr.2.2
      have hred : ∀ {R T : Type} [Lean.Grind.CommRing R] [Lean.Grind.CommRing T] {ct : T → Nat → R} (K : isPol ct) (hp : isZp R p) {φ : Int → R} (hφ : isRed φ p), ∃ M3, f_X8_reduce n 0 (oJ M1 36 9 p) = some M3 ∧ ok M3 ∧ chg [0] (oJ M1 36 9 p) M3 ∧ RP ct φ p M3 0 (rd P K hp hφ A) := fun K hp φ hφ => s_reduce P K hp hφ hok2 (s := 0) (by omega) hm2 (by omega) r2 (by omega) (fun j => by have := nz_le.mp (xA j); omega) hn
      obtain ⟨M3, e3, hok3, hc3, r3⟩ := hred K0 hp0 hφ0
      have hkq3 : kq M1 M3 := kq_trans (kq_md M1 p) (kq_chg hc3)
      have ht3 : M3.2 36 3 = 0 := by rw [hkq3.2 36 3 (by omega) (by omega)]; exact ht1
      have hm3 : M3.1 36 9 = p := by rw [hc3.1 36 9 (by omega)]; exact hm2
      have d10 : odI M3 42 0 = some ((nu ct0 (rd P K0 hp0 hφ0 A) : Int) - 1) := by rw [odI_n (i := 0) 0 rfl rfl (by rw [k42.2]; omega)]; exact congrArg some r3.1
      have hNle : nu ct0 (rd P K0 hp0 hφ0 A) ≤ nu co A := nu_le K0 (fun i hi => by rw [rd_co P K0 hp0 hφ0, nu_hi P A hi]; exact red_zero hφ0)
      have pre : ∀ X, (f_X8_parts n a p M = some X) = ((if (nu co A : Int) - 1 < 0 then some ((-1 : Int), M3) else Option.bind (gI ((nu ct0 (rd P K0 hp0 hφ0 A) : Int) - 1) ((nu co A : Int) - 1)) fun _ => if (nu co A : Int) - 1 ≤ (nu ct0 (rd P K0 hp0 hφ0 A) : Int) - 1 then Option.bind (gI ((nu co A : Int) - 1) 0) fun _ => if (nu co A : Int) - 1 = 0 then some ((0), M3) else Option.bind (f_X8_monic n (0) M3) fun v11 => Option.bind (f_X8_letter (10) v11) fun v12 => Option.bind (f_X8_rest n (10) (0) v12) fun v13 => Option.bind (lpF (l_X8_parts_106 n p ((nu co A : Int) - 1)) n (v13, (0), (1))) fun (M37, v38) => some (v38, M37) else some ((-1), M3)) = some X) := fun X => by
        unfold f_X8_parts opI opJ
        rw [s_isPoly a ha, bs, if_pos h1, gI_s (by omega) (by omega), bs, if_neg (by omega), ep, bs, gI_s (by omega) (by omega), bs, if_neg (by omega), bs, bs, th_fl, gI_s (by omega) (by omega), bs, if_pos rfl, e1, bs, d6, bs, gI_s (by omega) (by omega), bs, bs]
        have e3' : f_X8_reduce n 0 (oJ M1 36 9 (p : Int)) = some M3 := e3
        rw [e3', bs, gI_s (by omega) (by omega), bs, d10, bs]
      by_cases h0 : nu co A = 0
      · refine ⟨-1, M3, ?_, hok3, ko_trans hko1 (ko_kq hkq3), sm8_trans hsm1 (sm8_kq hkq3), Or.inr (Or.inr ⟨h1, by omega, ht3, Or.inl ⟨Or.inl h0, rfl⟩⟩)⟩
        rw [pre, if_pos (by omega)]
      · by_cases hdv : (p : Int) ∣ co A (nu co A - 1)
        · refine ⟨-1, M3, ?_, hok3, ko_trans hko1 (ko_kq hkq3), sm8_trans hsm1 (sm8_kq hkq3), Or.inr (Or.inr ⟨h1, by omega, ht3, Or.inl ⟨Or.inr hdv, rfl⟩⟩)⟩
          have hlt : nu ct0 (rd P K0 hp0 hφ0 A) < nu co A := by
            rcases Nat.lt_or_ge (nu ct0 (rd P K0 hp0 hφ0 A)) (nu co A) with z | z
            · exact z
            · exfalso
              have e : nu ct0 (rd P K0 hp0 hφ0 A) = nu co A := by omega
              have := nu_top K0 (rd P K0 hp0 hφ0 A) (by omega)
              rw [rd_co P K0 hp0 hφ0, e] at this
              exact this ((hφ0.2.2.1 _).mpr hdv)
          rw [pre, if_neg (by omega), gI_s (by omega) (by omega), bs, if_neg (by omega)]
        · have hNr := rd_N P K0 hp0 hφ0 hdv
          by_cases hc1 : nu co A = 1
          · refine ⟨0, M3, ?_, hok3, ko_trans hko1 (ko_kq hkq3), sm8_trans hsm1 (sm8_kq hkq3), Or.inr (Or.inr ⟨h1, by omega, ht3, Or.inr ⟨h0, hdv, ?_⟩⟩)⟩
            · rw [pre, if_neg (by omega), gI_s (by omega) (by omega), bs, if_pos (by omega), gI_s (by omega) (by omega), bs, if_pos (by omega)]
            · intro R T _ _ ct K hp φ hφ L hL
              have hN := rd_N P K hp hφ hdv
              have := FL_len K hp.2.2.1 (f := rd P K hp hφ A) (fun z => by rw [(nu_zero K).mpr z] at hN; omega) hL
              omega
          · -- the general case: any ring gives the same run of the loop
            have hmain : ∀ {R T : Type} [Lean.Grind.CommRing R] [Lean.Grind.CommRing T] {ct : T → Nat → R} (K : isPol ct) (hp : isZp R p) {φ : Int → R} (hφ : isRed φ p) {L : List T}, FL (nu ct) (rd P K hp hφ A) L → ∃ M', f_X8_parts n a p M = some (((L.length : Nat) : Int), M') ∧ ok M' ∧ kq M1 M' := fun {R T} _ _ {ct} K hp {φ} hφ {L} hL => by
              have hF := hp.2.2.1
              obtain ⟨M3', e3', hok3', hc3', r3'⟩ := hred K hp hφ
              have eM : M3' = M3 := by
                rw [e3] at e3'
                exact (Option.some.inj e3').symm
              rw [eM] at r3' hok3' hc3'
              have hN := rd_N P K hp hφ hdv
              have hA0 : rd P K hp hφ A ≠ 0 := fun z => by rw [(nu_zero K).mpr z] at hN; omega
              obtain ⟨M4, c, e4, hok4, hc4, hcne, hcinv, r4, n4⟩ := s_monic K hp hφ hok3' (s := 0) (by omega) hm3 (by omega) r3' (by omega) hA0 hn
              have e4' : f_X8_monic n 0 M3 = some M4 := e4
              obtain ⟨f, hf⟩ : ∃ f, f = mo K c 0 * rd P K hp hφ A := ⟨_, rfl⟩
              have hLf : FL (nu ct) f L := by rw [hf]; exact FL_unit K hF hcne hL
              have hf1 : ct f (nu ct f - 1) = 1 := by rw [hf, n4, mo_0 K, ← hcinv]; grind
              rw [← hf] at r4 n4
              obtain ⟨M5, e5, hok5, hc5, r5⟩ := s_letter K hp hφ hok4 (s := 10) (by omega)
              have e5' : f_X8_letter 10 M4 = some M5 := e5
              have hm5 : M5.1 36 9 = p := by rw [hc5.1 36 9 (by omega), hc4.1 36 9 (by omega)]; exact hm3
              have rf5 := RP_chg r4 hc5 (by simp) (by omega)
              have hX : nu ct (mo K (1 : R) 1) = 2 := mo_N K 1 hF.1
              obtain ⟨M6, q6, h6, e6, hok6, hc6, hq6, hn6, rr6, -⟩ := s_rest K hp hφ hok5 (a := 10) (b := 0) (by omega) (by omega) (by omega) (by omega) (by omega) hm5 (by omega) r5 rf5 (by omega) (by omega) (by omega) hf1 hn
              have e6' : f_X8_rest n 10 0 M5 = some M6 := e6
              obtain ⟨M7, e7, hok7, hkq7⟩ := s_partsL K hp hφ (by omega) hf1 (by omega) (by omega) hLf hok6 (by rw [hc6.1 36 9 (by omega)]; exact hm5) (RP_chg rf5 hc6 (by simp) (by omega)) rr6 hn6 ⟨q6, by rw [hq6]; grind⟩ hn
              rw [show (nu ct f : Int) - 1 = (nu co A : Int) - 1 by omega] at e7
              refine ⟨M7, ?_, hok7, kq_trans hkq3 (kq_trans (kq_chg hc4) (kq_trans (kq_chg hc5) (kq_trans (kq_chg hc6) hkq7)))⟩
              rw [pre, if_neg (by omega), gI_s (by omega) (by omega), bs, if_pos (by omega), gI_s (by omega) (by omega), bs, if_neg (by omega), e4', bs, e5', bs, e6', bs, e7, bs]
            obtain ⟨L0, hL0⟩ := FL_ex (pol_EU K0 hp0.2.2.1) _ (rd P K0 hp0 hφ0 A) (Nat.le_refl _) (fun z => by rw [(nu_zero K0).mpr z] at hNr; omega)
            obtain ⟨M7, e7, hok7, hkq7⟩ := hmain K0 hp0 hφ0 hL0
            refine ⟨_, M7, e7, hok7, ko_trans hko1 (ko_kq hkq7), sm8_trans hsm1 (sm8_kq hkq7), Or.inr (Or.inr ⟨h1, by omega, by rw [hkq7.2 36 3 (by omega) (by omega)]; exact ht1, Or.inr ⟨h0, hdv, ?_⟩⟩)⟩
            intro R T _ _ ct K hp φ hφ L hL
            obtain ⟨M8, e8, -, -⟩ := hmain K hp hφ hL
            rw [e7] at e8
            have := Option.some.inj e8
            exact (Prod.ext_iff.mp this).1
    · refine ⟨0, oI M 36 3 2, ?_, ok_oI hM (by omega), ko_oI M (a := 36) (by omega) 3 2, sm8_fl M (by omega) (by omega) 2, Or.inr (Or.inl ⟨h1, hnp, th_fl M 2⟩)⟩
      unfold f_X8_parts opI
      rw [s_isPoly a ha, bs, if_pos h1, gI_s (by omega) (by omega), bs, if_neg (by omega), ep, bs, gI_s (by omega) (by omega), bs, if_pos rfl, bs, bs, th_fl, gI_s (by omega) (by omega), bs, if_neg (by omega)]
  · refine ⟨0, oI M 36 3 1, ?_, ok_oI hM (by omega), ko_oI M (a := 36) (by omega) 3 1, sm8_fl M (by omega) (by omega) 1, Or.inl ⟨h1, th_fl M 1⟩⟩
    unfold f_X8_parts opI
    rw [s_isPoly a ha, bs, if_neg h1, gI_s (by omega) (by omega), bs, if_pos rfl, bs, bs, th_fl, gI_s (by omega) (by omega), bs, if_neg (by omega)]
end MParts2
