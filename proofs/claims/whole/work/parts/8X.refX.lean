/-! squareFreePart, countOften -/
section MRefX
theorem s_squareFreePart {S : Type} [Lean.Grind.CommRing S] {co : S → Nat → Int} (P : isPol co) {M : MI} (hM : ok M) (hpb : ∀ k, k < 20 → M.2 37 k = PB k) {F : S} (hF : RZ co M 0 F) (hNF : nu co F ≤ 11) (hN2 : 2 ≤ nu co F) (hXF : ∀ i, nz (co F i) ≤ 9999) (hFp : prim co F) (hFl : 0 < co F (nu co F - 1)) {n : Nat} (hn : 18446744073709551616 ≤ n) : ∃ M' g G, f_X8_squareFreePart n M = some M' ∧ ok M' ∧ chm [1, 2, 3, 4, 5, 6, 7, 11] [] M M' ∧ RZ co M' 1 G ∧ isG P F (dr P F) g ∧ F = g * G ∧ 2 ≤ nu co G ∧ prim co G ∧ 0 < co G (nu co G - 1) := by
  have hFne := prim_ne P hFp
  have hND := nu_dr P (f := F) (by omega)
  obtain ⟨M1, e1, hok1, hc1, r1⟩ := s_derive P hM (a := 0) (b := 2) (by omega) (by omega) (by omega) hF (by omega) (by omega) (fun i => by have := hXF i; omega) hn
  have e1' : f_X8_derive n 0 2 M = some M1 := e1
  have hXD : ∀ i, nz (co (dr P F) i) ≤ 99990 := fun i => by
    rcases Nat.lt_or_ge i 10 with q | q
    · rw [dr_co P, nt_int]
      have h1 : nz ((i + 1 : Nat) : Int) ≤ 10 := by unfold nz; omega
      have := nz_mul_le h1 (hXF (i + 1))
      omega
    · rw [nu_hi P _ (by omega)]; decide
  have rF1 := RZ_chg hF hc1 (by simp) (by omega)
  obtain ⟨M2, g, e2, hok2, hc2, r2, hg, hNg⟩ := s_commonWhole P hok1 (a := 0) (b := 2) (c := 11) (by omega) (by omega) (by omega) (by omega) (by omega) (by omega) (by omega) (by omega) (by omega) (by omega) (by omega) (by omega) (by omega) (fun k hk => by rw [hc1.2.1 37 k (by omega)]; exact hpb k hk) rF1 r1 hNF (by omega) (by omega) (by omega) (fun i => by have := hXF i; omega) hXD hn
  have e2' : f_X8_commonWhole n 0 2 11 M1 = some M2 := e2
  have rF2 := RZ_chm rF1 hc2 (by simp) (by omega)
  obtain ⟨g1, g2, g3, g4, g5⟩ := id hg
  obtain ⟨G, hG⟩ := id g3
  obtain ⟨b1, b2⟩ := bomb_dv P (by omega) hNF (X := 9999) (by omega) hXF hG
  obtain ⟨M3, hok3, hc3, hd3⟩ := s_divides P hok2 (g := 11) (a := 0) (by omega) (by omega) (by omega) (by omega) (by omega) (by omega) (b := 20000000) (by omega) (by omega) r2 rF2 (by omega) (by omega) (by omega) (fun i => by have := nz_le.mp (b1 i); omega) (fun i => by have := hXF i; omega) hn
  rcases hd3 with ⟨e3, q, hq, rq, -, -⟩ | ⟨e3, hnd⟩
  · have e3' : f_X8_divides n 11 0 20000000 M2 = some (1, M3) := e3
    have hg0 := prim_ne P g1
    have hqG : q = G := by
      have h1 : g * (q - G) = 0 := by rw [show g * (q - G) = g * q - g * G by grind, ← hq, ← hG]; grind
      rcases z_dom P h1 with z | z
      · exact absurd z hg0
      · grind
    subst hqG
    have hq0 : q ≠ 0 := fun z => hFne (by rw [hq, z]; grind)
    have hNm := nu_mul P int_D hg0 hq0
    rw [← hq] at hNm
    have ng0 : nu co g ≠ 0 := fun z => hg0 ((nu_zero P).mp z)
    have hgD := z_le P g4 (fun z => by rw [(nu_zero P).mpr z] at hND; omega)
    have hqp : prim co q := prim_dv P hFp ⟨g, by rw [hq]; grind⟩
    have hql : 0 < co q (nu co q - 1) := by
      have := lc_dv P hg0 hq0
      rw [← hq] at this
      rw [this] at hFl
      exact Int.pos_of_mul_pos_right hFl (by omega)
    obtain ⟨M4, e4, hok4, hc4, r4⟩ := s_copyZ hok3 (a := 3) (b := 1) (by omega) (by omega) rq (by omega) hn
    have e4' : f_X8_copy n 3 1 M3 = some M4 := e4
    obtain ⟨M5, q', e5, hok5, hc5, r5, hq', hq'p, hq'l, hq'N, hs0⟩ := s_primitiveZ P hok4 (s := 1) (by omega) r4 (by omega) (by omega) (fun i => by have := nz_le.mp (b2 i); omega) hn
    have e5' : f_X8_primitive n 1 M4 = some (sc co q, M5) := e5
    have hsp : 0 < sc co q := by
      have := hs0
      unfold sc at this ⊢
      rw [if_neg (by omega)] at this ⊢
      omega
    have hqq : q = q' := prim_uq P (x := 1) (y := sc co q) (by omega) hsp hqp hq'p hql hq'l (by rw [mo_one P, ← hq']; grind)
    rw [← hqq] at r5
    refine ⟨M5, g, q, ?_, hok5, chm_mono (chm_trans (chm_of hc1) (chm_trans hc2 (chm_of (chg_trans hc3 (chg_trans hc4 hc5))))) (fun x hx => by simp at hx ⊢; omega) (fun x hx => hx), r5, hg, hq, by omega, hqp, hql⟩
    unfold f_X8_squareFreePart
    rw [e1', bs, e2', bs, e3', bs]
    dsimp only
    rw [e4', bs, e5', bs]
  · exact absurd ⟨fun i => by have := b1 i; omega, G, hG, fun i => by have := b2 i; omega⟩ hnd
def EX {S : Type} [Lean.Grind.CommRing S] (π f : S) (e : Nat) : Prop := ∃ k, f = π ^ e * k ∧ ¬ dv π k
theorem EX_uq {S : Type} [Lean.Grind.CommRing S] {co : S → Nat → Int} (P : isPol co) {π f : S} (h : irz co π) {e e' : Nat} (h1 : EX π f e) (h2 : EX π f e') : e = e' := by
  have key : ∀ {a b : Nat}, a < b → EX π f a → EX π f b → False := by
    intro a b hab h1 h2
    obtain ⟨k, hk, hnk⟩ := h1
    obtain ⟨l, hl, hnl⟩ := h2
    obtain ⟨d, rfl⟩ : ∃ d, b = a + (d + 1) := ⟨b - a - 1, by omega⟩
    rw [pw_add, hk] at hl
    have h3 : π ^ a * (k - π ^ (d + 1) * l) = 0 := by grind
    rcases z_dom P h3 with z | z
    · exact prim_ne P (prim_pw P h.1 a) z
    · exact hnk ⟨π ^ d * l, by rw [pw_succ] at z; grind⟩
  rcases Nat.lt_trichotomy e e' with z | z | z
  · exact (key z h1 h2).elim
  · exact z
  · exact (key z h2 h1).elim
theorem ndv_mul {S : Type} [Lean.Grind.CommRing S] {co : S → Nat → Int} (P : isPol co) {π a b : S} (h : irz co π) (ha : ¬ dv π a) (hb : ¬ dv π b) : ¬ dv π (a * b) := fun hd => by
  rcases irz_dv P h hd with z | z
  · exact ha z
  · exact hb z
theorem ndv_pw {S : Type} [Lean.Grind.CommRing S] {co : S → Nat → Int} (P : isPol co) {π a : S} (h : irz co π) (ha : ¬ dv π a) : ∀ (e : Nat), ¬ dv π (a ^ e)
  | 0 => by
    rw [pw_zero]
    intro hd
    have hone : nu co (1 : S) = 1 := nu_eq P (fun i hi => by rw [p_one P, if_neg (by omega)]) (fun _ => by rw [p_one P, if_pos (by omega)]; decide)
    have := z_le P hd (fun z => by rw [(nu_zero P).mpr z] at hone; omega)
    have := h.2.1
    omega
  | e + 1 => by rw [pw_succ]; exact ndv_mul P h (ndv_pw P h ha e) ha
theorem k43 : kd 43 = 1 ∧ kn 43 = 10 := ⟨rfl, rfl⟩
def kp (M M' : MI) : Prop := (∀ k i, k ≠ 41 → ¬ (k = 36 ∧ i = 9) → M'.1 k i = M.1 k i) ∧ (∀ k i, k ≠ 42 → k ≠ 43 → k ≠ 36 → M'.2 k i = M.2 k i) ∧ M'.2 36 2 = M.2 36 2 ∧ M'.2 36 4 = M.2 36 4 ∧ M'.2 36 3 = M.2 36 3
theorem kp_refl (M : MI) : kp M M := ⟨fun _ _ _ _ => rfl, fun _ _ _ _ _ => rfl, rfl, rfl, rfl⟩
theorem kp_trans {M M' M'' : MI} (h : kp M M') (h1 : kp M' M'') : kp M M'' := ⟨fun k i a b => (h1.1 k i a b).trans (h.1 k i a b), fun k i a b c => (h1.2.1 k i a b c).trans (h.2.1 k i a b c), h1.2.2.1.trans h.2.2.1, h1.2.2.2.1.trans h.2.2.2.1, h1.2.2.2.2.trans h.2.2.2.2⟩
theorem kp_chm {Rs F : List Nat} {M M' : MI} (h : chm Rs F M M') (h2 : 2 ∉ F ∧ 3 ∉ F) (h4 : 4 ∉ F) : kp M M' := ⟨h.1, fun k i a _ c => h.2.1 k i a (fun z => c z.1), h.2.1 36 2 (by omega) (fun z => h2.1 z.2), h.2.1 36 4 (by omega) (fun z => h4 z.2), h.2.1 36 3 (by omega) (fun z => h2.2 z.2)⟩
theorem kp_43 (M : MI) (i : Nat) (v : Int) : kp M (oI M 43 i v) := ⟨fun _ _ _ _ => rfl, fun k j _ b _ => by rw [oI_2, if_neg (fun z => b z.1)], by rw [oI_2, if_neg (by omega)], by rw [oI_2, if_neg (by omega)], by rw [oI_2, if_neg (by omega)]⟩
theorem RZ_43 {S : Type} [Lean.Grind.CommRing S] {co : S → Nat → Int} {M : MI} {s : Nat} {f : S} (h : RZ co M s f) (i : Nat) (v : Int) : RZ co (oI M 43 i v) s f := ⟨by show (oI M 43 i v).2 42 s = _; rw [oI_2, if_neg (by omega)]; exact h.1, h.2⟩
theorem FR_43 {S : Type} [Lean.Grind.CommRing S] {co : S → Nat → Int} {M : MI} {k : Nat} {fo : Nat → S} (h : FR co M k fo) (i : Nat) (v : Int) : FR co (oI M 43 i v) k fo := ⟨by rw [oI_2, if_neg (by omega)]; exact h.1, fun j hj => ⟨RZ_43 (h.2 j hj).1 i v, (h.2 j hj).2⟩⟩
theorem z_bd {S : Type} [Lean.Grind.CommRing S] {co : S → Nat → Int} (P : isPol co) {F g : S} (hF0 : nu co F ≠ 0) (hNF : nu co F ≤ 11) (hXF : ∀ i, nz (co F i) ≤ 9999) (h : dv g F) : (∀ i, nz (co g i) ≤ 979902) ∧ nu co g ≤ 11 ∧ nu co g ≠ 0 := by
  obtain ⟨w, hw⟩ := h
  have hFne : F ≠ 0 := fun z => hF0 ((nu_zero P).mpr z)
  have hg0 : g ≠ 0 := fun z => hFne (by rw [hw, z]; grind)
  obtain ⟨b1, b2⟩ := bomb_dv P hF0 hNF (X := 9999) (by omega) hXF hw
  have := z_le P ⟨w, hw⟩ hFne
  exact ⟨fun i => b1 i, by omega, fun z => hg0 ((nu_zero P).mp z)⟩
theorem s_countI {S : Type} [Lean.Grind.CommRing S] {co : S → Nat → Int} (P : isPol co) {F : S} (hF0 : nu co F ≠ 0) (hNF : nu co F ≤ 11) (hXF : ∀ i, nz (co F i) ≤ 9999) {k i : Nat} (hk : k ≤ 10) (hi : i < k) {fo : Nat → S} (hirz : ∀ j, j < k → irz co (fo j)) (hdv : ∀ j, j < k → dv (fo j) F) {M0 M : MI} (hM : ok M) (hkp : kp M0 M) {F1 w : S} (hFw : F = w * F1) (hw : ¬ dv (fo i) w) (r0 : RZ co M 0 F1) (hFR : FR co M k fo) (h43 : M.2 43 i = 0) {n : Nat} (hn : 18446744073709551616 ≤ n) :
    ∃ M' F2 e, lpF (l_X8_countOften_17 n i) n M = some M' ∧ ok M' ∧ kp M0 M' ∧ F1 = fo i ^ e * F2 ∧ RZ co M' 0 F2 ∧ FR co M' k fo ∧ M'.2 43 i = (e : Nat) ∧ (∀ j, j ≠ i → M'.2 43 j = M.2 43 j) ∧ EX (fo i) F e := by
  have hFne : F ≠ 0 := fun z => hF0 ((nu_zero P).mpr z)
  have hπ := hirz i hi
  obtain ⟨M', hL, h1, h2, e, F2, h3, h4, h5, h6, h7, h8⟩ := lp_gh (step := l_X8_countOften_17 n i) (fun g M1 => ok M1 ∧ kp M0 M1 ∧ ∃ (e : Nat) (F2 : S), F1 = fo i ^ e * F2 ∧ RZ co M1 0 F2 ∧ FR co M1 k fo ∧ M1.2 43 i = (e : Nat) ∧ (∀ j, j ≠ i → M1.2 43 j = M.2 43 j) ∧ g = nu co F2 ∧ e + nu co F2 ≤ 20) (fun M1 => ok M1 ∧ kp M0 M1 ∧ ∃ (e : Nat) (F2 : S), F1 = fo i ^ e * F2 ∧ RZ co M1 0 F2 ∧ FR co M1 k fo ∧ M1.2 43 i = (e : Nat) ∧ (∀ j, j ≠ i → M1.2 43 j = M.2 43 j) ∧ ¬ dv (fo i) F2) (fun g M1 hst => by
    obtain ⟨k1, k2, e, F2, hF2, r2, hFR1, h431, h43o, hg, heN⟩ := hst
    obtain ⟨ri, ni⟩ := hFR1.2 i hi
    have hF2F : dv F2 F := ⟨w * fo i ^ e, by rw [hFw, hF2]; grind⟩
    obtain ⟨bF, nF, nF0⟩ := z_bd P hF0 hNF hXF hF2F
    obtain ⟨bi, -, -⟩ := z_bd P hF0 hNF hXF (hdv i hi)
    have e40 : (40 : Int) + i = ((40 + i : Nat) : Int) := by omega
    obtain ⟨M2, hok2, hc2, hd2⟩ := s_divides P k1 (g := 40 + i) (a := 0) (by omega) (by omega) (by omega) (by omega) (by omega) (by omega) (b := 20000000) (by omega) (by omega) ri r2 (by omega) (by omega) nF0 (fun j => by have := nz_le.mp (bi j); omega) (fun j => by have := bF j; omega) hn
    have hkp2 : kp M0 M2 := kp_trans k2 (kp_chm (F := []) (chm_of hc2) (by simp) (by simp))
    have hFR2 := FR_chm hFR1 (chm_of (F := []) hc2) (fun s hs => by simp at hs; omega) (by simp)
    have h432 : ∀ j, M2.2 43 j = M1.2 43 j := fun j => hc2.2.1 43 j (by omega)
    unfold l_X8_countOften_17
    rw [e40]
    rcases hd2 with ⟨e2, q, hq, rq, -, -⟩ | ⟨e2, hnd⟩
    · have e2' : f_X8_divides n ((40 + i : Nat) : Int) 0 20000000 M1 = some (1, M2) := e2
      rw [e2', bs]
      dsimp only
      have hq0 : q ≠ 0 := fun z => nF0 ((nu_zero P).mpr (by rw [hq, z]; grind))
      have hNm := nu_mul P int_D (irz_ne P hπ) hq0
      rw [← hq] at hNm
      have := hπ.2.1
      have hv7 : M2.2 43 i = (e : Nat) := by rw [h432]; exact h431
      rw [gI_s (by omega) (by omega), bs, if_neg (by omega), odI_n i rfl rfl (by rw [k43.2]; omega), bs, hv7, osI_n i rfl rfl (by rw [k43.2]; omega), bs]
      have hok3 : ok (oI M2 43 i ((e : Nat) + 1)) := ok_oI hok2 (by omega)
      obtain ⟨M4, e4, hok4, hc4, r4⟩ := s_copyZ hok3 (a := 3) (b := 0) (by omega) (by omega) (RZ_43 rq i _) (by omega) hn
      have e4' : f_X8_copy n 3 0 (oI M2 43 i ((e : Nat) + 1)) = some M4 := e4
      rw [e4', bs]
      refine Or.inr ⟨_, nu co q, rfl, ⟨hok4, kp_trans hkp2 (kp_trans (kp_43 M2 i _) (kp_chm (F := []) (chm_of hc4) (by simp) (by simp))), e + 1, q, by rw [hF2, hq, pw_succ]; grind, r4, FR_chm (FR_43 hFR2 i _) (chm_of (F := []) hc4) (fun s hs => by simp at hs; omega) (by simp), ?_, fun j hj => ?_, rfl, by omega⟩, by omega⟩
      · rw [hc4.2.1 43 i (by omega), oI_2, if_pos ⟨rfl, rfl⟩]; omega
      · rw [hc4.2.1 43 j (by omega), oI_2, if_neg (fun z => hj z.2), h432]; exact h43o j hj
    · have e2' : f_X8_divides n ((40 + i : Nat) : Int) 0 20000000 M1 = some (0, M2) := e2
      rw [e2', bs]
      dsimp only
      rw [gI_s (by omega) (by omega), bs, if_pos rfl]
      refine Or.inl ⟨_, rfl, hok2, hkp2, e, F2, hF2, RZ_chg r2 hc2 (by simp) (by omega), hFR2, by rw [h432]; exact h431, fun j hj => by rw [h432]; exact h43o j hj, fun hd => hnd ?_⟩
      obtain ⟨y, hy⟩ := hd
      have hyF : dv y F := dv_trans ⟨fo i, by rw [hy]; grind⟩ hF2F
      obtain ⟨by1, -, -⟩ := z_bd P hF0 hNF hXF hyF
      exact ⟨fun j => by have := bi j; omega, y, hy, fun j => by have := by1 j; omega⟩) n (nu co F1) M ⟨hM, hkp, 0, F1, by rw [pw_zero]; grind, r0, hFR, h43, fun j hj => rfl, rfl, by have := (z_bd P hF0 hNF hXF (g := F1) ⟨w, by rw [hFw]; grind⟩).2.1; omega⟩ (by have := (z_bd P hF0 hNF hXF (g := F1) ⟨w, by rw [hFw]; grind⟩).2.1; omega)
  refine ⟨M', F2, e, hL, h1, h2, h3, h4, h5, h6, h7, w * F2, by rw [hFw, h3]; grind, ndv_mul P hπ hw h8⟩
theorem s_countOften {S : Type} [Lean.Grind.CommRing S] {co : S → Nat → Int} (P : isPol co) {F : S} (hF0 : nu co F ≠ 0) (hNF : nu co F ≤ 11) (hXF : ∀ i, nz (co F i) ≤ 9999) {k : Nat} (hk : k ≤ 10) {fo : Nat → S} (hirz : ∀ j, j < k → irz co (fo j)) (hdv : ∀ j, j < k → dv (fo j) F) (hinj : ∀ i j, i < j → j < k → fo i ≠ fo j) {M : MI} (hM : ok M) (r0 : RZ co M 0 F) (hFR : FR co M k fo) {n : Nat} (hn : 18446744073709551616 ≤ n) :
    ∃ (M' : MI) (es : Nat → Nat), f_X8_countOften n M = some M' ∧ ok M' ∧ kp M M' ∧ FR co M' k fo ∧ ∀ i, i < k → M'.2 43 i = (es i : Nat) ∧ EX (fo i) F (es i) := by
  obtain ⟨M', hL, h1, h2, h3, es, h4⟩ := lp_do (step := l_X8_countOften_2 n) (fun st => ok st.1 ∧ kp M st.1 ∧ FR co st.1 k fo ∧ ∃ (i : Nat) (w F1 : S) (es : Nat → Nat), st.2 = i ∧ i ≤ k ∧ F = w * F1 ∧ RZ co st.1 0 F1 ∧ (∀ j, i ≤ j → j < k → ¬ dv (fo j) w) ∧ ∀ j, j < i → st.1.2 43 j = (es j : Nat) ∧ EX (fo j) F (es j)) (fun st => (20 - st.2).toNat) (fun M' => ok M' ∧ kp M M' ∧ FR co M' k fo ∧ ∃ es : Nat → Nat, ∀ i, i < k → M'.2 43 i = (es i : Nat) ∧ EX (fo i) F (es i)) (fun st hst => by
    obtain ⟨M1, y⟩ := st
    obtain ⟨k1, k2, hFR1, i, w, F1, es, hy, hik, hFw, r1, hw, hes⟩ := hst
    dsimp only at k1 k2 hFR1 hy r1 hes
    subst hy
    unfold l_X8_countOften_2
    dsimp only
    rw [hFR1.1, gI_s (by omega) (by omega), bs]
    by_cases hle : (k : Int) ≤ i
    · rw [if_pos hle]
      exact Or.inl ⟨_, rfl, k1, k2, hFR1, es, fun j hj => hes j (by omega)⟩
    · rw [if_neg hle, osI_n i rfl rfl (by rw [k43.2]; omega), bs]
      obtain ⟨M2, F2, e, e2, hok2, hkp2, hF2, r2, hFR2, h43, h43o, hEX⟩ := s_countI P hF0 hNF hXF hk (i := i) (by omega) hirz hdv (M := oI M1 43 i 0) (ok_oI k1 (by omega)) (kp_trans k2 (kp_43 M1 i 0)) hFw (hw i (by omega) (by omega)) (RZ_43 r1 i 0) (FR_43 hFR1 i 0) (by rw [oI_2, if_pos ⟨rfl, rfl⟩]) hn
      rw [e2, bs]
      refine Or.inr ⟨_, rfl, ⟨hok2, hkp2, hFR2, i + 1, w * fo i ^ e, F2, fun j => if j = i then e else es j, by dsimp only; omega, by omega, by rw [hFw, hF2]; grind, r2, fun j hj1 hj2 => ?_, fun j hj => ?_⟩, by dsimp only; omega⟩
      · refine ndv_mul P (hirz j hj2) (hw j (by omega) hj2) (ndv_pw P (hirz j hj2) (fun hd => ?_) e)
        have := irz_eq P (hirz j hj2) (hirz i (by omega)) hd
        exact hinj i j (by omega) hj2 this.symm
      · dsimp only
        by_cases z : j = i
        · rw [if_pos z, z]; exact ⟨h43, hEX⟩
        · rw [if_neg z, h43o j z, oI_2, if_neg (fun x => z x.2)]
          exact hes j (by omega)) n (M, 0) ⟨hM, kp_refl M, hFR, 0, 1, F, fun _ => 0, rfl, by omega, by grind, r0, fun j _ hj => by have := ndv_pw P (hirz j hj) (a := (0 : S)) ; intro hd; have hone : nu co (1 : S) = 1 := nu_eq P (fun i hi => by rw [p_one P, if_neg (by omega)]) (fun _ => by rw [p_one P, if_pos (by omega)]; decide); have := z_le P hd (fun z => by rw [(nu_zero P).mpr z] at hone; omega); have := (hirz j hj).2.1; omega, fun j hj => absurd hj (by omega)⟩ (by dsimp only; omega)
  refine ⟨M', es, ?_, h1, h2, h3, h4⟩
  unfold f_X8_countOften
  rw [hL, bs]
end MRefX
