/-! joining pieces: the loops of factorWhole -/
section MRefT
def FR {S : Type} [Lean.Grind.CommRing S] (co : S → Nat → Int) (M : MI) (k : Nat) (fo : Nat → S) : Prop := M.2 36 11 = k ∧ ∀ i, i < k → RZ co M (40 + i) (fo i) ∧ nu co (fo i) ≤ 11
theorem FR_chm {S : Type} [Lean.Grind.CommRing S] {co : S → Nat → Int} {M M' : MI} {k : Nat} {fo : Nat → S} {Rs F : List Nat} (h : FR co M k fo) (hc : chm Rs F M M') (hs : ∀ s ∈ Rs, s < 40) (hF : 11 ∉ F) : FR co M' k fo := ⟨by rw [hc.2.1 36 11 (by omega) (fun z => hF z.2)]; exact h.1, fun j hj => ⟨RZ_chm (h.2 j hj).1 hc (fun z => by have := hs _ z; omega) (by have := (h.2 j hj).2; omega), (h.2 j hj).2⟩⟩
theorem s_keep {S : Type} [Lean.Grind.CommRing S] {co : S → Nat → Int} {M : MI} (hM : ok M) {s k : Nat} (hs : s < 60) (hs40 : s < 40) {fo fo' : Nat → S} (hFR : FR co M k fo) (hk : k < 20) {f : S} (hf : RZ co M s f) (hN : nu co f ≤ 11) (h1 : fo' k = f) (h2 : ∀ i, i < k → fo' i = fo i) {n : Nat} (hn : 18446744073709551616 ≤ n) : ∃ M', f_X8_keep n s M = some M' ∧ ok M' ∧ chm [40 + k] [11] M M' ∧ FR co M' (k + 1) fo' ∧ M'.1 36 9 = M.1 36 9 := by
  obtain ⟨M1, e1, hok1, hc1, r1⟩ := s_copyZ hM (a := s) (b := 40 + k) hs (by omega) hf (by omega) hn
  have hm := hFR.1
  have e1' : f_X8_copy n s (40 + (k : Int)) M = some M1 := by rw [← e1]; exact congrArg (fun x => f_X8_copy n s x M) (by omega)
  have h3 : M1.2 36 11 = k := by rw [hc1.2.1 36 11 (by omega)]; exact hm
  have hc2 := chm_fl (F := [11]) M1 (i := 11) (by simp) (k + 1)
  refine ⟨oI M1 36 11 (k + 1), ?_, ok_oI hok1 (by omega), chm_mono (chm_trans (chm_of hc1) hc2) (fun x hx => by simpa using hx) (fun x hx => hx), ⟨by rw [oI_2, if_pos ⟨rfl, rfl⟩]; omega, fun i hi => ?_⟩, by rw [oI_1, hc1.1 36 9 (by omega)]⟩
  · unfold f_X8_keep
    rw [hm, e1', bs, h3]
    rfl
  · by_cases z : i = k
    · rw [z, h1]
      exact ⟨RZ_chm r1 hc2 (by simp) (by omega), hN⟩
    · rw [h2 i (by omega)]
      obtain ⟨a1, a2⟩ := hFR.2 i (by omega)
      exact ⟨RZ_chm (RZ_chg a1 hc1 (by simp; omega) (by omega)) hc2 (by simp) (by omega), a2⟩
theorem pdn_nuZ {S : Type} [Lean.Grind.CommRing S] {co : S → Nat → Int} (P : isPol co) {q : Nat → S} : ∀ {m : Nat}, (∀ j, j < m → 2 ≤ nu co (q j)) → m + 1 ≤ nu co (pdn q m) ∧ pdn q m ≠ 0
  | 0, _ => by
    have hone : nu co (1 : S) = 1 := nu_eq P (fun i hi => by rw [p_one P, if_neg (by omega)]) (fun _ => by rw [p_one P, if_pos (by omega)]; decide)
    exact ⟨by simp only [pdn]; omega, fun q => by simp only [pdn] at q; rw [(nu_zero P).mpr q] at hone; omega⟩
  | m + 1, h => by
    obtain ⟨h1, h2⟩ := pdn_nuZ P (q := q) (m := m) (fun j hj => h j (by omega))
    have h3 := h m (by omega)
    have h4 : q m ≠ 0 := fun z => by rw [(nu_zero P).mpr z] at h3; omega
    have h5 := nu_mul P int_D h2 h4
    have h6 : nu co (pdn q (m + 1)) = nu co (pdn q m * q m) := rfl
    exact ⟨by omega, fun z => by have := (nu_zero P).mpr z; omega⟩
theorem bomb_lc {S : Type} [Lean.Grind.CommRing S] {co : S → Nat → Int} (P : isPol co) {F rest g h w : S} (hF0 : nu co F ≠ 0) (hNF : nu co F ≤ 11) {X : Int} (hX0 : 0 ≤ X) (hX : ∀ i, nz (co F i) ≤ X) (hF : F = rest * w) (hr : rest = g * h) (i : Nat) : nz (co g i * co h (nu co h - 1)) ≤ 98 * X := by
  have hFne : F ≠ 0 := fun z => hF0 ((nu_zero P).mpr z)
  have hw0 : w ≠ 0 := fun z => hFne (by rw [hF, z]; grind)
  have hr0 : rest ≠ 0 := fun z => hFne (by rw [hF, z]; grind)
  have hg0 : g ≠ 0 := fun z => hr0 (by rw [hr, z]; grind)
  have hh0 : h ≠ 0 := fun z => hr0 (by rw [hr, z]; grind)
  have hhw0 : h * w ≠ 0 := fun z => hFne (by rw [hF, hr, show g * h * w = g * (h * w) by grind, z]; grind)
  have e : F = g * (h * w) := by rw [hF, hr]; grind
  have n1 := nu_mul P int_D hg0 hhw0
  rw [← e] at n1
  have h4 := bomb P (f := g) (g := h * w) (by omega) hhw0 hX0 (fun k => by rw [← e]; exact hX k) i
  rw [lc_dv P hh0 hw0, nz_mul, nz_mul] at h4
  rw [nz_mul]
  have nw : nu co w ≠ 0 := fun q => hw0 ((nu_zero P).mp q)
  have h5 : 1 ≤ nz (co w (nu co w - 1)) := by have := nu_top P w nw; unfold nz; omega
  have h6 : nz (co h (nu co h - 1)) * 1 ≤ nz (co h (nu co h - 1)) * nz (co w (nu co w - 1)) := Int.mul_le_mul_of_nonneg_left h5 (nz_nn _)
  have h7 : nz (co g i) * nz (co h (nu co h - 1)) ≤ nz (co g i) * (nz (co h (nu co h - 1)) * nz (co w (nu co w - 1))) := Int.mul_le_mul_of_nonneg_left (by omega) (nz_nn _)
  omega
def RSW : List Nat := [3, 4, 7, 11, 19, 40, 41, 42, 43, 44, 45, 46, 47, 48, 49, 50]
def WI {S T R : Type} [Lean.Grind.CommRing S] [Lean.Grind.CommRing T] [Lean.Grind.CommRing R] {co : S → Nat → Int} (P : isPol co) {ct : T → Nat → R} (K : isPol ct) {p : Nat} (hp : isZp R p) {φ : Int → R} (hφ : isRed φ p) (q : Nat → T) (m : Nat) (G : S) (M0 M : MI) (rest : S) (L : Nat) (fo : Nat → S) (k many set : Nat) : Prop := ok M ∧ chm RSW [11] M0 M ∧ M.1 36 9 = p ∧ PC ct φ p M m q ∧ RZ co M 19 rest ∧ FR co M k fo ∧ rci P K hp hφ q m G rest L fo k many set ∧ L < 2 ^ m
theorem pow_le10 {m : Nat} (h : m ≤ 10) : 2 ^ m ≤ 1024 := by
  have : (2 : Nat) ^ m ≤ 2 ^ 10 := Nat.pow_le_pow_right (by omega) h
  simpa using this
theorem s_joinI {S T R : Type} [Lean.Grind.CommRing S] [Lean.Grind.CommRing T] [Lean.Grind.CommRing R] {co : S → Nat → Int} (P : isPol co) {ct : T → Nat → R} (K : isPol ct) {p : Nat} (hp : isZp R p) {φ : Int → R} (hφ : isRed φ p) (hpl : 100000000000 < p) (hm2 : p ≤ 1000000000000) (hod : p % 2 = 1) {m : Nat} {q : Nat → T} (hirr : ∀ i, i < m → irr (nu ct) (q i)) (hcop : ∀ i j, i < m → j < m → i ≠ j → cop (q i) (q j)) (hmonq : ∀ i, i < m → ct (q i) (nu ct (q i) - 1) = 1) (hGq : nu ct (pdn q m) ≤ 11) (hm10 : m ≤ 10) {F G : S} (hF0 : nu co F ≠ 0) (hNF : nu co F ≤ 11) (hXF : ∀ i, nz (co F i) ≤ 9999) (hGF : dv G F) (hGl : ¬ (p : Int) ∣ co G (nu co G - 1)) {M0 M : MI} {rest : S} {L : Nat} {fo : Nat → S} {k many : Nat} (hmany : 1 ≤ many) (hmany2 : many ≤ 20) (h : WI P K hp hφ q m G M0 M rest L fo k many 1) {n : Nat} (hn : 18446744073709551616 ≤ n) :
    ∃ (M' : MI) (rest' : S) (L' : Nat) (fo' : Nat → S) (k' : Nat), lpF (l_X8_factorWhole_125 n many) n (M, (L : Int), 1) = some (M', (L' : Int)) ∧ WI P K hp hφ q m G M0 M' rest' L' fo' k' many (2 ^ m) := by
  have hp2 := hp.1.1
  have hF := hp.2.2.1
  have hE := pol_EU K hF
  have hone : (1 : T) ≠ 0 := fun z => by
    have := p_one K (S := T) 0
    rw [z, p_zero K, if_pos rfl] at this
    exact hF.1 this.symm
  have hpm0 : ∀ a, pm q a m ≠ 0 := fun a => pdn_ne hE hone (fun i hh => by
    split
    · exact irr_ne hE (hirr i hh)
    · exact hone)
  have hpmon : ∀ a k, k ≤ m → ct (pm q a k) (nu ct (pm q a k) - 1) = 1 := fun a k => by
    induction k with
    | zero =>
      intro _
      have h1 : pm q a 0 = 1 := rfl
      have h2 : nu ct (1 : T) = 1 := nu_eq K (fun i hi => by rw [p_one K, if_neg (by omega)]) (fun _ => by rw [p_one K, if_pos (by omega)]; exact hF.1)
      rw [h1, h2, p_one K, if_pos rfl]
    | succ k ih =>
      intro hk
      have ih := ih (by omega)
      have e : pm q a (k + 1) = pm q a k * (if a k then q k else 1) := rfl
      by_cases z : a k = true
      · rw [z, if_pos rfl] at e
        have a0 : pm q a k ≠ 0 := pdn_ne hE hone (fun i hh => by
          split
          · exact irr_ne hE (hirr i (by omega))
          · exact hone)
        have b0 := irr_ne hE (hirr k (by omega))
        have n1 := nu_mul K (isF_D hF) a0 b0
        have na : nu ct (pm q a k) ≠ 0 := fun z => a0 ((nu_zero K).mp z)
        have nb : nu ct (q k) ≠ 0 := fun z => b0 ((nu_zero K).mp z)
        have t := mul_top K (a := pm q a k) (b := q k) (n := nu ct (pm q a k) - 1) (m := nu ct (q k) - 1) (fun i hi => nu_hi K _ (by omega)) (fun i hi => nu_hi K _ (by omega))
        rw [e, show nu ct (pm q a k * q k) - 1 = nu ct (pm q a k) - 1 + (nu ct (q k) - 1) by omega, t, ih, hmonq k (by omega)]
        grind
      · rw [if_neg z] at e
        rw [e, show pm q a k * 1 = pm q a k by grind]
        exact ih
  have hFne : F ≠ 0 := fun z => hF0 ((nu_zero P).mpr z)
  have h1024 := pow_le10 hm10
  obtain ⟨⟨M', L'i⟩, hL, rest', L', fo', k', he, hW⟩ := lp_do (step := l_X8_factorWhole_125 n many) (fun st => ∃ (rest : S) (L : Nat) (fo : Nat → S) (k set : Nat), st.2.1 = L ∧ st.2.2 = set ∧ 1 ≤ set ∧ set ≤ 2 ^ m ∧ WI P K hp hφ q m G M0 st.1 rest L fo k many set) (fun st => (2000 - st.2.2).toNat) (fun r => ∃ rest' L' fo' k', r.2 = ((L' : Nat) : Int) ∧ WI P K hp hφ q m G M0 r.1 rest' L' fo' k' many (2 ^ m)) (fun st hst => by
    obtain ⟨M1, y, sI⟩ := st
    obtain ⟨rest, L, fo, k, set, hy, hsI, hs1, hs2, hW⟩ := hst
    dsimp only at hy hsI hW
    subst hy
    subst hsI
    obtain ⟨hok, hch, hm9, hPC, r19, hFR, hrci, hL2⟩ := id hW
    have hrl := rci_lc P K hp hφ hrci hGl
    obtain ⟨hirz, hprod, hprim, hpos, hrd, hno⟩ := id hrci
    have hrG : dv rest G := ⟨pdn fo k, by rw [← hprod]; grind⟩
    obtain ⟨w, hw⟩ := dv_trans hrG hGF
    have hr0 := prim_ne P hprim
    have hnr0 : nu co rest ≠ 0 := fun z => hr0 ((nu_zero P).mp z)
    obtain ⟨hXr, -⟩ := bomb_dv P hF0 hNF (X := 9999) (by omega) hXF hw
    have hw0 : w ≠ 0 := fun z => hFne (by rw [hw, z]; grind)
    have hnw0 : nu co w ≠ 0 := fun z => hw0 ((nu_zero P).mp z)
    have hNr := nu_mul P int_D hr0 hw0
    rw [← hw] at hNr
    have hk10 : k ≤ 10 := by
      have h1 := (pdn_nuZ P (q := fo) (m := k) (fun j hj => (hirz j hj).2.1))
      have h2 := nu_mul P int_D h1.2 hr0
      rw [hprod] at h2
      obtain ⟨w2, hw2⟩ := hGF
      have hG0 : G ≠ 0 := fun z => hFne (by rw [hw2, z]; grind)
      have hw20 : w2 ≠ 0 := fun z => hFne (by rw [hw2, z]; grind)
      have h3 := nu_mul P int_D hG0 hw20
      rw [← hw2] at h3
      have h4 : nu co w2 ≠ 0 := fun z => hw20 ((nu_zero P).mp z)
      omega
    unfold l_X8_factorWhole_125
    dsimp only
    rw [hPC.1, oshlI1 (by omega), gI_s (by omega) (by omega), bs]
    by_cases hend : ((2 ^ m : Nat) : Int) ≤ set
    · rw [if_pos hend]
      have e : set = 2 ^ m := by omega
      rw [e] at hW
      exact Or.inl ⟨_, rfl, rest, L, fo, k, rfl, hW⟩
    · rw [if_neg hend]
      have hset : set < 2 ^ m := by omega
      have hskip : ¬ ((∀ i, i < m → tb set i = true → tb L i = true) ∧ pc (tb set) m = many ∧ 2 * many ≤ pc (tb L) m) → WI P K hp hφ q m G M0 M1 rest L fo k many (set + 1) := fun hs => ⟨hok, hch, hm9, hPC, r19, hFR, rci_skip P K hp hφ hrci hs, hL2⟩
      have e1 : oandI (set : Int) (oxorI (L : Int) (-1)) = ((set &&& (set ^^^ L) : Nat) : Int) := oandn_nat (by omega) (by omega)
      have h1 : set &&& (set ^^^ L) ≤ set := Nat.and_le_left
      have hb1 : f_X8_bits n set = some ((pc (tb set) m : Nat) : Int) := by rw [s_bits (by omega) hn, pc_bit hset hm10]
      have hb2 : f_X8_bits n L = some ((pc (tb L) m : Nat) : Int) := by rw [s_bits (by omega) hn, pc_bit hL2 hm10]
      have hpcm : ∀ a, pc a m ≤ m := fun a => by
        clear hskip
        generalize m = mm
        induction mm with
        | zero => simp [pc]
        | succ j ih => simp only [pc]; split <;> omega
      have hp1 := hpcm (tb set)
      have hp3 := hpcm (tb L)
      rw [e1, gI_s (by omega) (by omega), bs]
      by_cases hz : ((set &&& (set ^^^ L) : Nat) : Int) = 0
      · have hsub := (tb_sub hset).mp (show set &&& (set ^^^ L) = 0 by omega)
        rw [if_pos hz, hb1, bs, gI_s (by omega) (by omega), bs]
        by_cases hz2 : ((pc (tb set) m : Nat) : Int) = many
        · rw [if_pos hz2, hb2, bs, gI_s (by omega) (by omega), bs]
          by_cases hz3 : ((pc (tb L) m : Nat) : Int) < 2 * many
          · rw [if_pos hz3, bs]
            refine Or.inr ⟨_, rfl, ⟨rest, L, fo, k, set + 1, rfl, by dsimp only; omega, by omega, by omega, hskip (fun z => by omega)⟩, by dsimp only; omega⟩
          · rw [if_neg hz3]
            have hlr := hXr (nu co rest - 1)
            unfold nz at hlr
            obtain ⟨M2, l, C, e, e2, hok2, hc2, r2, hNC, hCX, hl1, hl2, he, hCp, hC1, hlC⟩ := s_candidate P K hp hφ hok hm9 hm2 hod hm10 hPC hGq (set := set) (by omega) r19 (by omega) hnr0 hpos (by omega) (hpmon (tb set) m (Nat.le_refl _)) (fun z => hpm0 _ ((nu_zero K).mp z)) hn
            have r192 := RZ_chg r19 hc2 (by simp) (by omega)
            obtain ⟨M3, hok3, hc3, hd3⟩ := s_divides P hok2 (g := 7) (a := 19) (by omega) (by omega) (by omega) (by omega) (by omega) (by omega) (b := 20000000) (by omega) (by omega) r2 r192 (by omega) (by omega) hnr0 (fun i => by have := nz_le.mp (hCX i); omega) (fun i => by have := hXr i; omega) hn
            have hPC3 := PC_chm (PC_chm hPC (chm_of (F := []) hc2) (fun s hs => by simp at hs; omega)) (chm_of (F := []) hc3) (fun s hs => by simp at hs; omega)
            have hm93 : M3.1 36 9 = p := by rw [hc3.1 36 9 (by omega), hc2.1 36 9 (by omega)]; exact hm9
            have hFR3 := FR_chm (FR_chm hFR (chm_of (F := []) hc2) (fun s hs => by simp at hs; omega) (by simp)) (chm_of (F := []) hc3) (fun s hs => by simp at hs; omega) (by simp)
            have hch3 : chm RSW [11] M0 M3 := chm_mono (chm_trans hch (chm_of (chg_trans hc2 hc3))) (fun x hx => by simp [RSW] at hx ⊢; omega) (fun x hx => hx)
            rw [e2, bs]
            rcases hd3 with ⟨e3, qq, hqq, rq3, hqb, -⟩ | ⟨e3, hnd⟩
            · have e3' : f_X8_divides n 7 19 20000000 M2 = some (1, M3) := e3
              rw [e3', bs]
              dsimp only
              rw [gI_s (by omega) (by omega), bs, if_neg (by omega)]
              obtain ⟨fo', hfo'⟩ : ∃ fo' : Nat → S, fo' = fun i => if i = k then C else fo i := ⟨_, rfl⟩
              have f1 : fo' k = C := by rw [hfo']; dsimp only; rw [if_pos rfl]
              have f2 : ∀ i, i < k → fo' i = fo i := fun i hi => by rw [hfo']; dsimp only; rw [if_neg (by omega)]
              have r73 := RZ_chg r2 hc3 (by simp) (by omega)
              obtain ⟨M4, e4, hok4, hc4, hFR4, hmd4⟩ := s_keep hok3 (s := 7) (k := k) (by omega) (by omega) hFR3 (by omega) r73 hNC f1 f2 hn
              have e4' : f_X8_keep n 7 M3 = some M4 := e4
              have hqq0 : qq ≠ 0 := fun z => hr0 (by rw [hqq, z]; grind)
              have hNq := nu_mul P int_D (prim_ne P hCp) hqq0
              rw [← hqq] at hNq
              have hnC0 : nu co C ≠ 0 := fun z => prim_ne P hCp ((nu_zero P).mp z)
              have rq4 := RZ_chm rq3 hc4 (by simp; omega) (by omega)
              obtain ⟨M5, e5, hok5, hc5, r5⟩ := s_copyZ hok4 (a := 3) (b := 19) (by omega) (by omega) rq4 (by omega) hn
              have e5' : f_X8_copy n 3 19 M4 = some M5 := e5
              have e6 : oandI (L : Int) (oxorI (set : Int) (-1)) = ((L &&& (L ^^^ set) : Nat) : Int) := oandn_nat (by omega) (by omega)
              have hfac := fac_of P K hp hφ hrl (hpm0 (tb set)) hl2 hCp hC1 hlC ⟨qq, hqq⟩
              have hrci' := rci_hit P K hp hφ hirr hcop (fo' := fo') hrci hGl hsub (by omega) (by omega) hmany hfac hqq (L' := L &&& (L ^^^ set)) (fun i _ => tb_diff L set i) f1 f2
              rw [e4', bs, e5', bs, e6, bs]
              refine Or.inr ⟨_, rfl, ⟨qq, L &&& (L ^^^ set), fo', k + 1, set + 1, rfl, by dsimp only; omega, by omega, by omega, hok5, ?_, ?_, ⟨?_, fun i hi => ?_⟩, r5, ?_, hrci', Nat.lt_of_le_of_lt Nat.and_le_left hL2⟩, by dsimp only; omega⟩
              · exact chm_mono (chm_trans hch3 (chm_trans hc4 (chm_of hc5))) (fun x hx => by simp [RSW] at hx ⊢; omega) (fun x hx => hx)
              · dsimp only; rw [hc5.1 36 9 (by omega), hmd4]; exact hm93
              · dsimp only; rw [hc5.2.1 36 10 (by omega), hc4.2.1 36 10 (by omega) (by simp)]; exact hPC3.1
              · have a1 := hPC3.2 i hi
                exact ⟨RP_chg (RP_chm a1.1 hc4 (by simp; omega) (by have := a1.2.2.2; omega)) hc5 (by simp; omega) (by have := a1.2.2.2; omega), a1.2⟩
              · exact FR_chm hFR4 (chm_of (F := []) hc5) (fun s hs => by simp at hs; omega) (by simp)
            · have e3' : f_X8_divides n 7 19 20000000 M2 = some (0, M3) := e3
              rw [e3', bs]
              dsimp only
              rw [gI_s (by omega) (by omega), bs, if_pos rfl, bs]
              refine Or.inr ⟨_, rfl, ⟨rest, L, fo, k, set + 1, rfl, by dsimp only; omega, by omega, by omega, hok3, hch3, hm93, hPC3, RZ_chg r192 hc3 (by simp) (by omega), hFR3, rci_no P K hp hφ hrci (fun g hg => hnd ?_), hL2⟩, by dsimp only; omega⟩
              have hCg := fac_lift P K hp hφ hr0 hrl hpos (hpmon (tb set) m (Nat.le_refl _)) hg (B := 98 * 9999) (fun h i hh => bomb_lc P hF0 hNF (by omega) hXF hw hh i) (by omega) hl1 hl2 he hCp hC1 hlC
              obtain ⟨y, hy⟩ := hg.2.2.1
              obtain ⟨z1, z2⟩ := bomb_dv P hF0 hNF (X := 9999) (by omega) hXF (g := g) (w := y * w) (by rw [hw, hy]; grind)
              obtain ⟨z3, -⟩ := bomb_dv P hF0 hNF (X := 9999) (by omega) hXF (g := y) (w := g * w) (by rw [hw, hy]; grind)
              rw [hCg]
              exact ⟨fun i => by have := z1 i; omega, y, hy, fun i => by have := z3 i; omega⟩
        · rw [if_neg hz2, bs]
          refine Or.inr ⟨_, rfl, ⟨rest, L, fo, k, set + 1, rfl, by dsimp only; omega, by omega, by omega, hskip (fun z => by omega)⟩, by dsimp only; omega⟩
      · rw [if_neg hz, bs]
        refine Or.inr ⟨_, rfl, ⟨rest, L, fo, k, set + 1, rfl, by dsimp only; omega, by omega, by omega, hskip (fun z => hz ?_)⟩, by dsimp only; omega⟩
        have := (tb_sub (b := L) hset).mpr z.1
        omega) n (M, (L : Int), 1) ⟨rest, L, fo, k, 1, rfl, rfl, by omega, Nat.pow_pos (by omega), h⟩ (by dsimp only; omega)
  dsimp only at he hW
  subst he
  exact ⟨M', rest', L', fo', k', hL, hW⟩
end MRefT
