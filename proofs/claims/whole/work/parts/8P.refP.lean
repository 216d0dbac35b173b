/-! addPart, splitAll -/
section MRefP
theorem lp_gh {σ ρ : Type} {step : σ → Option (ρ ⊕ σ)} (I : Nat → σ → Prop) (Post : ρ → Prop) (h : ∀ g s, I g s → (∃ r, step s = some (.inl r) ∧ Post r) ∨ (∃ s' g', step s = some (.inr s') ∧ I g' s' ∧ g' < g)) : ∀ (n g : Nat) (s : σ), I g s → g < n → ∃ r, lpF step n s = some r ∧ Post r
  | 0, g, s, _, hn => absurd hn (by omega)
  | n + 1, g, s, hs, hn => by
    rcases h g s hs with ⟨r, h1, h2⟩ | ⟨s', g', h1, h2, h3⟩
    · exact ⟨r, by simp only [lpF, h1], h2⟩
    · obtain ⟨r, h4, h5⟩ := lp_gh I Post h n g' s' h2 (by omega)
      exact ⟨r, by simp only [lpF, h1]; exact h4, h5⟩
theorem s_addPart {R T : Type} [Lean.Grind.CommRing T] [Lean.Grind.CommRing R] {ct : T → Nat → R} {p : Nat} {φ : Int → R} {M : MI} (hM : ok M) {s m : Nat} (hs : s < 60) (hm : M.2 36 10 = m) (hm2 : m < 16) {f : T} (hf : RP ct φ p M s f) (hN : nu ct f ≤ 24) {n : Nat} (hn : 18446744073709551616 ≤ n) : ∃ M', f_X8_addPart n s M = some M' ∧ ok M' ∧ chm [24 + m] [10] M M' ∧ M'.2 36 10 = m + 1 ∧ RP ct φ p M' (24 + m) f ∧ M'.1 36 9 = M.1 36 9 := by
  obtain ⟨M1, e1, hok1, hc1, r1⟩ := s_copyP hM (a := s) (b := 24 + m) hs (by omega) hf hN hn
  have e1' : f_X8_copy n s (24 + (m : Int)) M = some M1 := by rw [← e1]; exact congrArg (fun x => f_X8_copy n s x M) (by omega)
  have h2 : M1.2 36 10 = m := by rw [hc1.2.1 36 10 (by omega)]; exact hm
  have hc2 := chm_fl (F := [10]) M1 (i := 10) (by simp) (m + 1)
  refine ⟨oI M1 36 10 (m + 1), ?_, ok_oI hok1 (by omega), chm_mono (chm_trans (chm_of hc1) hc2) (fun x hx => by simpa using hx) (fun x hx => hx), by rw [oI_2, if_pos ⟨rfl, rfl⟩], RP_chm r1 hc2 (by simp) hN, by rw [oI_1, hc1.1 36 9 (by omega)]⟩
  unfold f_X8_addPart
  rw [hm, e1', bs, h2]
  rfl
theorem pdn_nu {R T : Type} [Lean.Grind.CommRing T] [Lean.Grind.CommRing R] {ct : T → Nat → R} (K : isPol ct) (hF : isF R) {q : Nat → T} : ∀ {m : Nat}, (∀ j, j < m → 2 ≤ nu ct (q j)) → m + 1 ≤ nu ct (pdn q m) ∧ pdn q m ≠ 0
  | 0, _ => by
    have hone : nu ct (1 : T) = 1 := nu_eq K (fun i hi => by rw [p_one K, if_neg (by omega)]) (fun _ => by rw [p_one K, if_pos (by omega)]; exact hF.1)
    exact ⟨by simp only [pdn]; omega, fun q => by simp only [pdn] at q; rw [(nu_zero K).mpr q] at hone; omega⟩
  | m + 1, h => by
    obtain ⟨h1, h2⟩ := pdn_nu K hF (q := q) (m := m) (fun j hj => h j (by omega))
    have h3 := h m (by omega)
    have h4 : q m ≠ 0 := fun z => by rw [(nu_zero K).mpr z] at h3; omega
    have h5 := nu_mul K (isF_D hF) h2 h4
    have h6 : nu ct (pdn q (m + 1)) = nu ct (pdn q m * q m) := rfl
    exact ⟨by omega, fun z => by have := (nu_zero K).mpr z; omega⟩
theorem pdn_upd {T : Type} [Lean.Grind.CommRing T] {q q' : Nat → T} {k : Nat} {v : T} (hv : q' k * v = q k) (hj : ∀ j, j ≠ k → q' j = q j) : ∀ {m : Nat}, k < m → pdn q' m * v = pdn q m
  | 0, h => absurd h (by omega)
  | m + 1, h => by
    simp only [pdn]
    rcases Nat.lt_or_ge k m with z | z
    · have := pdn_upd hv hj z
      rw [hj m (by omega), ← this]; grind
    · have e : k = m := by omega
      subst e
      have e2 : pdn q' k = pdn q k := pdn_congr (fun i hi => hj i (by omega))
      rw [e2, ← hv]; grind
def PC {R T : Type} [Lean.Grind.CommRing T] [Lean.Grind.CommRing R] (ct : T → Nat → R) (φ : Int → R) (p : Nat) (M : MI) (m : Nat) (q : Nat → T) : Prop := M.2 36 10 = m ∧ ∀ j, j < m → RP ct φ p M (24 + j) (q j) ∧ ct (q j) (nu ct (q j) - 1) = 1 ∧ 2 ≤ nu ct (q j) ∧ nu ct (q j) ≤ 11
theorem PC_chm {R T : Type} [Lean.Grind.CommRing T] [Lean.Grind.CommRing R] {ct : T → Nat → R} {φ : Int → R} {p : Nat} {M M' : MI} {m : Nat} {q : Nat → T} {Rs : List Nat} (h : PC ct φ p M m q) (hc : chm Rs [] M M') (hs : ∀ s ∈ Rs, s < 24) : PC ct φ p M' m q := ⟨by rw [hc.2.1 36 10 (by omega) (by simp)]; exact h.1, fun j hj => ⟨RP_chm (h.2 j hj).1 hc (fun z => by have := hs _ z; omega) (by have := (h.2 j hj).2.2.2; omega), (h.2 j hj).2⟩⟩
def RSP : List Nat := [3, 8, 9, 13, 14, 15, 16, 20, 24, 25, 26, 27, 28, 29, 30, 31, 32, 33, 34]
def SI {R T : Type} [Lean.Grind.CommRing T] [Lean.Grind.CommRing R] (ct : T → Nat → R) (φ : Int → R) (p d m0 : Nat) (M0 : MI) (q0 : Nat → T) (M : MI) (m : Nat) (q : Nat → T) (k : Nat) : Prop := ok M ∧ chm RSP [10] M0 M ∧ M.1 36 9 = p ∧ PC ct φ p M m q ∧ (∀ j, j < m0 → q j = q0 j) ∧ (∀ j, m0 ≤ j → j < k → nu ct (q j) = d + 1) ∧ (∀ j, m0 ≤ j → j < m → dv (q j) (q0 m0)) ∧ pdn q m = pdn q0 (m0 + 1) ∧ m0 ≤ k ∧ k ≤ m
theorem SI_m {R T : Type} [Lean.Grind.CommRing T] [Lean.Grind.CommRing R] {ct : T → Nat → R} (K : isPol ct) (hF : isF R) {φ : Int → R} {p d m0 : Nat} {M0 : MI} {q0 : Nat → T} {M : MI} {m : Nat} {q : Nat → T} {k : Nat} (hG : nu ct (pdn q0 (m0 + 1)) ≤ 11) (h : SI ct φ p d m0 M0 q0 M m q k) : m ≤ 10 := by
  obtain ⟨-, -, -, h1, -, -, -, h2, -, -⟩ := h
  have := (pdn_nu K hF (q := q) (m := m) (fun j hj => (h1.2 j hj).2.2.1)).1
  rw [h2] at this
  omega
theorem sqf_dv {S : Type} [Lean.Grind.CommRing S] {N : S → Nat} {f g : S} (h : sqf N f) (hd : dv g f) : sqf N g := fun π hπ hd2 => h π hπ (dv_trans hd2 hd)
theorem s_splitI {R T : Type} [Lean.Grind.CommRing T] [Lean.Grind.CommRing R] {ct : T → Nat → R} (K : isPol ct) {p : Nat} (hp : isZp R p) {φ : Int → R} (hφ : isRed φ p) (hpl : 100000000000 < p) (hp2 : p ≤ 1000000000000) (hod : p % 2 = 1) {d m0 : Nat} (hd1 : 1 ≤ d) (hd : d ≤ 10) {M0 : MI} {q0 : Nat → T} (hG : nu ct (pdn q0 (m0 + 1)) ≤ 11) (hsq : sqf (nu ct) (q0 m0)) (hall : ∀ π, irr (nu ct) π → dv π (q0 m0) → nu ct π = d + 1) {M : MI} {m : Nat} {q : Nat → T} {k : Nat} (hS : SI ct φ p d m0 M0 q0 M m q k) (hkm : k < m) {n : Nat} (hn : 18446744073709551616 ≤ n) :
    ∃ M', lpF (l_X8_splitAll_13 n d k) n (M, 0) = some M' ∧ ∃ m' q', SI ct φ p d m0 M0 q0 M' m' q' (k + 1) := by
  have hF := hp.2.2.1
  have hE := pol_EU K hF
  have hsep : ∀ (f : T), dv f (q0 m0) → nu ct f ≤ 11 → d + 1 < nu ct f → ∀ c, ∃ j, j < p ∧ sepAt K p d f (nt (c + j)) := fun f hf1 hf2 hf3 c => sepa_ex K hp hpl hod hf3 hf2 hd1 (sqf_dv hsq hf1) (fun π i1 d1 => hall π i1 (dv_trans d1 hf1)) c
  have hm10 := SI_m K hF hG hS
  obtain ⟨-, -, -, hPC0, -, -, hdv0, -, hk0, -⟩ := id hS
  obtain ⟨B, hB⟩ : ∃ B, B = p + 2 := ⟨_, rfl⟩
  refine lp_gh (step := l_X8_splitAll_13 n d k) (fun g st => ∃ (m : Nat) (q : Nat → T) (c : Nat), st.2 = c ∧ SI ct φ p d m0 M0 q0 st.1 m q k ∧ k < m ∧ c + g ≤ 13 * B ∧ (d + 1 < nu ct (q k) → ∃ j, j < p ∧ sepAt K p d (q k) (nt (c + j)) ∧ (12 - m) * B + j + 1 ≤ g)) (fun M' => ∃ m' q', SI ct φ p d m0 M0 q0 M' m' q' (k + 1)) (fun g st hst => ?_) n (13 * B) (M, 0) ⟨m, q, 0, rfl, hS, hkm, by omega, fun h => by
      obtain ⟨j, hj, hj2⟩ := hsep (q k) (hdv0 k hk0 hkm) (hPC0.2 k hkm).2.2.2 h 0
      refine ⟨j, hj, hj2, ?_⟩
      have : (12 - m) * B ≤ 12 * B := Nat.mul_le_mul_right _ (by omega)
      omega⟩ (by omega)
  obtain ⟨M1, y⟩ := st
  obtain ⟨m, q, c, hy, hS1, hkm, hcg, hj⟩ := hst
  dsimp only at hy hS1
  subst hy
  have hm10 := SI_m K hF hG hS1
  obtain ⟨hok, hch, hm9, hPC, hq0, hqd, hqdv, hprod, hk0, hkle⟩ := id hS1
  obtain ⟨rk, mk, nk2, nk11⟩ := hPC.2 k hkm
  have hqk0 : q k ≠ 0 := fun z => by rw [(nu_zero K).mpr z] at nk2; omega
  have d5 : odI M1 42 (24 + (k : Int)) = some ((nu ct (q k) : Int) - 1) := by rw [odI_n (24 + k) rfl (by omega) (by rw [k42.2]; omega)]; exact congrArg some rk.1
  unfold l_X8_splitAll_13
  dsimp only
  rw [d5, bs, gI_s (by omega) (by omega), bs]
  by_cases hle : (nu ct (q k) : Int) - 1 ≤ d
  · rw [if_pos hle]
    refine Or.inl ⟨_, rfl, m, q, hok, hch, hm9, hPC, hq0, fun j h1 h2 => ?_, hqdv, hprod, by omega, by omega⟩
    rcases Nat.lt_or_ge j k with z | z
    · exact hqd j h1 z
    · rw [show j = k by omega]
      obtain ⟨π, i1, d1⟩ := irr_ex hE _ (q k) (Nat.le_refl _) nk2
      have h3 := hall π i1 (dv_trans d1 (hqdv k hk0 hkm))
      have h4 := eu_le hE d1 hqk0
      omega
  · rw [if_neg hle]
    obtain ⟨j, hjp, hjs, hjg⟩ := hj (by omega)
    have e24 : (24 + (k : Int)) = ((24 + k : Nat) : Int) := by omega
    obtain ⟨M2, ret, e2, hok2, hc2, hret⟩ := s_splits K hp hφ hok (s := 24 + k) (d := d) (by omega) (by omega) hm9 hp2 rk nk11 nk2 mk (by omega) (c := c) (by omega) hn
    rw [← e24] at e2
    rw [e2, bs]
    dsimp only
    have hS2 : SI ct φ p d m0 M0 q0 M2 m q k := ⟨hok2, chm_mono (chm_trans hch (chm_of hc2)) (fun x hx => by simp [RSP] at hx ⊢; omega) (fun x hx => hx), by rw [hc2.1 36 9 (by omega)]; exact hm9, PC_chm hPC (chm_of hc2) (fun s hs => by simp at hs; omega), hq0, hqd, hqdv, hprod, hk0, hkle⟩
    rcases hret with ⟨hr, v, rv, vdv, vmon, vn2, vlt⟩ | ⟨hr, hno⟩
    · subst hr
      rw [gI_s (by omega) (by omega), bs, if_neg (by omega)]
      obtain ⟨-, hch2, hm92, hPC2, -, -, -, -, -, -⟩ := id hS2
      obtain ⟨rk2, -, -, -⟩ := hPC2.2 k hkm
      obtain ⟨M3, e3, hok3, hc3, r3⟩ := s_copyP hok2 (a := 24 + k) (b := 20) (by omega) (by omega) rk2 (by omega) hn
      rw [← e24] at e3
      have e3' : f_X8_copy n (24 + (k : Int)) 20 M2 = some M3 := e3
      have rv3 := RP_chg rv hc3 (by simp) (by omega)
      have hm93 : M3.1 36 9 = p := by rw [hc3.1 36 9 (by omega)]; exact hm92
      obtain ⟨M4, w, r, e4, hok4, hc4, hw, hrn, rr4, rq4⟩ := s_rest K hp hφ hok3 (a := 20) (b := 13) (by omega) (by omega) (by omega) (by omega) (by omega) hm93 hp2 r3 rv3 (by omega) (by omega) (by omega) vmon hn
      have e4' : f_X8_rest n 20 13 M3 = some M4 := e4
      have rq4 := rq4 (by omega)
      have hv0 : v ≠ 0 := fun z => by rw [(nu_zero K).mpr z] at vn2; omega
      have hr0 : r = 0 := by
        obtain ⟨x, hx⟩ := vdv
        have h1 : dv v r := ⟨x - w, by grind⟩
        apply Classical.byContradiction
        intro h2
        have := eu_le hE h1 h2
        omega
      have hwv : w * v = q k := by rw [hw, hr0]; grind
      have hw0 : w ≠ 0 := fun z => hqk0 (by rw [← hwv, z]; grind)
      have hNw := nu_mul K (isF_D hF) hw0 hv0
      rw [hwv] at hNw
      have hnw0 : nu ct w ≠ 0 := fun z => hw0 ((nu_zero K).mp z)
      have hwm : ct w (nu ct w - 1) = 1 := by
        have h1 := mul_top K (a := w) (b := v) (n := nu ct w - 1) (m := nu ct v - 1) (fun i hi => nu_hi K w (by omega)) (fun i hi => nu_hi K v (by omega))
        rw [hwv, show nu ct w - 1 + (nu ct v - 1) = nu ct (q k) - 1 by omega, mk, vmon] at h1
        rw [h1]; grind
      obtain ⟨M5, e5, hok5, hc5, r5⟩ := s_copyP hok4 (a := 3) (b := 24 + k) (by omega) (by omega) rq4 (by omega) hn
      rw [← e24] at e5
      have e5' : f_X8_copy n 3 (24 + (k : Int)) M4 = some M5 := e5
      have hpm5 : M5.2 36 10 = m := by rw [hc5.2.1 36 10 (by omega), hc4.2.1 36 10 (by omega), hc3.2.1 36 10 (by omega)]; exact hPC2.1
      have rv5 := RP_chg (RP_chg rv3 hc4 (by simp) (by omega)) hc5 (by simp; omega) (by omega)
      obtain ⟨M6, e6, hok6, hc6, hpm6, r6, hmd6⟩ := s_addPart hok5 (s := 13) (m := m) (by omega) hpm5 (by omega) rv5 (by omega) hn
      have e6' : f_X8_addPart n 13 M5 = some M6 := e6
      rw [e3', bs, e4', bs, e5', bs, e6', bs, bs]
      obtain ⟨q', hq'⟩ : ∃ q' : Nat → T, q' = fun i => if i = k then w else if i = m then v else q i := ⟨_, rfl⟩
      have q'k : q' k = w := by rw [hq']; dsimp only; rw [if_pos rfl]
      have q'm : q' m = v := by rw [hq']; dsimp only; rw [if_neg (by omega), if_pos rfl]
      have q'o : ∀ i, i ≠ k → i ≠ m → q' i = q i := fun i h1 h2 => by rw [hq']; dsimp only; rw [if_neg h1, if_neg h2]
      have hc35 : chg [20, 3, 24 + k] M2 M5 := chg_mono (chg_trans hc3 (chg_trans hc4 hc5)) (fun x hx => by simp at hx ⊢; omega)
      have hS6 : SI ct φ p d m0 M0 q0 M6 (m + 1) q' k := by
        refine ⟨hok6, chm_mono (chm_trans hch2 (chm_trans (chm_of hc35) hc6)) (fun x hx => ?_) (fun x hx => hx), by rw [hmd6, hc35.1 36 9 (by omega)]; exact hm92, ⟨by rw [hpm6]; omega, fun i hi => ?_⟩, fun i hi => by rw [q'o i (by omega) (by omega)]; exact hq0 i hi, fun i h1 h2 => by rw [q'o i (by omega) (by omega)]; exact hqd i h1 h2, fun i h1 h2 => ?_, ?_, hk0, by omega⟩
        · simp [RSP] at hx ⊢; omega
        · by_cases z1 : i = k
          · rw [z1, q'k]
            exact ⟨RP_chm r5 hc6 (by simp; omega) (by omega), hwm, by omega, by omega⟩
          · by_cases z2 : i = m
            · rw [z2, q'm]
              exact ⟨r6, vmon, vn2, by omega⟩
            · rw [q'o i z1 z2]
              obtain ⟨a1, a2⟩ := hPC2.2 i (by omega)
              exact ⟨RP_chm (RP_chg a1 hc35 (by simp; omega) (by omega)) hc6 (by simp; omega) (by omega), a2⟩
        · by_cases z1 : i = k
          · rw [z1, q'k]; exact dv_trans ⟨v, hwv.symm⟩ (hqdv k hk0 hkm)
          · by_cases z2 : i = m
            · rw [z2, q'm]; exact dv_trans vdv (hqdv k hk0 hkm)
            · rw [q'o i z1 z2]; exact hqdv i h1 (by omega)
        · show pdn q' m * q' m = _
          rw [q'm, ← hprod]
          have hcg : pdn q' m = pdn (fun i => if i = k then w else q i) m := pdn_congr (fun i hi => by
            by_cases z1 : i = k
            · rw [z1, q'k, if_pos rfl]
            · rw [q'o i z1 (by omega), if_neg z1])
          rw [hcg]
          exact pdn_upd (k := k) (by rw [if_pos rfl]; exact hwv) (fun j hj => by rw [if_neg hj]) hkm
      refine Or.inr ⟨_, g - 1, rfl, ⟨m + 1, q', c + 1, by dsimp only; omega, hS6, by omega, by omega, fun hlt => ?_⟩, by omega⟩
      have hm11 := SI_m K hF hG hS6
      obtain ⟨-, -, -, hPC6, -, -, hdv6, -, -, -⟩ := id hS6
      obtain ⟨j', hj', hj2'⟩ := hsep (q' k) (hdv6 k hk0 (by omega)) (hPC6.2 k (by omega)).2.2.2 hlt (c + 1)
      refine ⟨j', hj', hj2', ?_⟩
      have : (12 - m) * B = (12 - (m + 1)) * B + B := by rw [show 12 - m = (12 - (m + 1)) + 1 by omega, Nat.succ_mul]
      omega
    · subst hr
      rw [gI_s (by omega) (by omega), bs, if_pos rfl, bs]
      have hj0 : j ≠ 0 := fun z => hno (by rw [z] at hjs; exact hjs)
      refine Or.inr ⟨_, g - 1, rfl, ⟨m, q, c + 1, by dsimp only; omega, hS2, hkm, by omega, fun _ => ⟨j - 1, by omega, by rw [show c + 1 + (j - 1) = c + j by omega]; exact hjs, by omega⟩⟩, by omega⟩
theorem s_splitAll {R T : Type} [Lean.Grind.CommRing T] [Lean.Grind.CommRing R] {ct : T → Nat → R} (K : isPol ct) {p : Nat} (hp : isZp R p) {φ : Int → R} (hφ : isRed φ p) (hpl : 100000000000 < p) (hp2 : p ≤ 1000000000000) (hod : p % 2 = 1) {d m0 : Nat} (hd1 : 1 ≤ d) (hd : d ≤ 10) {M : MI} (hM : ok M) (hm : M.1 36 9 = p) {q0 : Nat → T} (hPC : PC ct φ p M (m0 + 1) q0) (hG : nu ct (pdn q0 (m0 + 1)) ≤ 11) (hsq : sqf (nu ct) (q0 m0)) (hall : ∀ π, irr (nu ct) π → dv π (q0 m0) → nu ct π = d + 1) {n : Nat} (hn : 18446744073709551616 ≤ n) :
    ∃ M' m q, f_X8_splitAll n m0 d M = some M' ∧ SI ct φ p d m0 M q0 M' m q m := by
  have hF := hp.2.2.1
  have hS0 : SI ct φ p d m0 M q0 M (m0 + 1) q0 m0 := ⟨hM, chm_refl _ _ _, hm, hPC, fun _ _ => rfl, fun j h1 h2 => absurd h1 (by omega), fun j h1 h2 => by rw [show j = m0 by omega]; exact dv_refl _, rfl, by omega, by omega⟩
  obtain ⟨M', hL, m, q, hS⟩ := lp_do (step := l_X8_splitAll_2 n d) (fun st => ∃ (m : Nat) (q : Nat → T) (k : Nat), st.2 = k ∧ SI ct φ p d m0 M q0 st.1 m q k) (fun st => (20 - st.2).toNat) (fun M' => ∃ m q, SI ct φ p d m0 M q0 M' m q m) (fun st hst => by
    obtain ⟨M1, y⟩ := st
    obtain ⟨m, q, k, hy, hS⟩ := hst
    dsimp only at hy hS
    subst hy
    have hm10 := SI_m K hF hG hS
    have hpm : M1.2 36 10 = m := hS.2.2.2.1.1
    have hkm : k ≤ m := hS.2.2.2.2.2.2.2.2.2
    unfold l_X8_splitAll_2
    dsimp only
    rw [hpm, gI_s (by omega) (by omega), bs]
    by_cases hle : (m : Int) ≤ k
    · rw [if_pos hle]
      have e : k = m := by omega
      subst e
      exact Or.inl ⟨_, rfl, k, q, hS⟩
    · obtain ⟨M2, e2, m', q', hS'⟩ := s_splitI K hp hφ hpl hp2 hod hd1 hd hG hsq hall hS (by omega) hn
      rw [if_neg hle, e2, bs]
      exact Or.inr ⟨_, rfl, ⟨m', q', k + 1, by dsimp only; omega, hS'⟩, by dsimp only; omega⟩) n (M, m0) ⟨m0 + 1, q0, m0, rfl, hS0⟩ (by dsimp only; omega)
  refine ⟨M', m, q, ?_, hS⟩
  unfold f_X8_splitAll
  rw [hL, bs]
end MRefP
