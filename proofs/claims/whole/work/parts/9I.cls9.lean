/-! the class's splitter: findFixed -/
section MCls9
theorem k23 : kd 23 = 1 ∧ kn 23 = 10 := ⟨rfl, rfl⟩
theorem j_fillI {M : MI} {a : Nat} (hk : kd a = 1) (hkn : kn a ≤ 100) (x : Int) {n : Nat} (hn : 18446744073709551616 ≤ n) : f_J7_fill_53178 n a x M = some (wiM M a 0 (kn a) (fun _ => x)) := by
  have e := lp_for (step := l_J7_fill_53178_5 a x (kn a : Int)) (fun k => (wiM M a 0 k (fun _ => x), (k : Int))) (wiM M a 0 (kn a) (fun _ => x)) (kn a) n (fun k hk' => by
    unfold l_J7_fill_53178_5
    dsimp only
    rw [gI_s (by omega) (by omega), bs, if_neg (by omega), osI_n k hk rfl hk', bs]
    have := wiM_s M a 0 k (fun _ => x)
    rw [Nat.zero_add] at this
    rw [this]
    rfl) (by
    unfold l_J7_fill_53178_5
    dsimp only
    rw [gI_s (by omega) (by omega), bs, if_pos (by omega)]) (by omega)
  rw [wiM_0] at e
  unfold f_J7_fill_53178
  rw [show olA a = some ((kn a : Nat) : Int) from if_pos (Or.inl hk), bs]
  have e' : lpF (l_J7_fill_53178_5 a x (kn a : Int)) n (M, 0) = some (wiM M a 0 (kn a) (fun _ => x)) := e
  rw [e', bs]
def chS (As : List Nat) (M M' : MI) : Prop := (∀ k i, k ∉ As → M'.1 k i = M.1 k i) ∧ (∀ k i, k ≠ 23 → ¬ (k = 4 ∧ (i = 1 ∨ i = 2)) → M'.2 k i = M.2 k i)
theorem chS_refl (As : List Nat) (M : MI) : chS As M M := ⟨fun _ _ _ => rfl, fun _ _ _ _ => rfl⟩
theorem chS_trans {As Bs : List Nat} {M M' M'' : MI} (h : chS As M M') (h1 : chS Bs M' M'') : chS (As ++ Bs) M M'' := ⟨fun k i hk => by
  simp only [List.mem_append, not_or] at hk
  exact (h1.1 k i hk.2).trans (h.1 k i hk.1), fun k i a b => (h1.2 k i a b).trans (h.2 k i a b)⟩
theorem chS_mono {As Bs : List Nat} {M M' : MI} (h : chS As M M') (hs : ∀ x ∈ As, x ∈ Bs) : chS Bs M M' := ⟨fun k i hk => h.1 k i (fun z => hk (hs k z)), h.2⟩
theorem chS_of {As : List Nat} {M M' : MI} (h : chJ As M M') : chS As M M' := ⟨h.2, fun k i _ _ => by rw [h.1]⟩
theorem CP_chS {R T : Type} [Lean.Grind.CommRing R] [Lean.Grind.CommRing T] {ct : T → Nat → R} {φ : Int → R} {p : Nat} {M M' : MI} {a : Nat} {f : T} {As : List Nat} (h : CP ct φ p M a f) (hc : chS As M M') (ha : a ∉ As) : CP ct φ p M' a f := ⟨fun i hi => by rw [hc.1 a i ha]; exact h.1 i hi, h.2⟩
def RSX : List Nat := [14, 15, 24, 25, 139, 140, 141, 142, 143, 144, 145, 146, 147, 148, 149, 150, 151, 152, 153, 154, 155, 156, 157, 158]
theorem c_findFixed {R T : Type} [Lean.Grind.CommRing R] [Lean.Grind.CommRing T] {ct : T → Nat → R} (K : isPol ct) {p : Nat} (hp : isZp R p) {φ : Int → R} (hφ : isRed φ p) (hp2 : p ≤ 100000000) {M : MI} (hM : ok M) {a : Nat} (ha : row a) (ha1 : a ≠ 14 ∧ a ≠ 15 ∧ a ≠ 24 ∧ a ≠ 25) (ha2 : ¬ (139 ≤ a ∧ a < 159)) (hmp : M.1 1 0 = p) {f : T} (hf : CP ct φ p M a f) (hN2 : 2 ≤ nu ct f) (hf1 : ct f (nu ct f - 1) = 1) {n : Nat} (hn : 18446744073709551616 ≤ n) :
    ∃ (M' : MI) (B : Nat → T) (k : Nat), f_X6_findFixed n a M = some M' ∧ ok M' ∧ chS RSX M M' ∧ M'.2 4 2 = k ∧ M'.2 4 1 = M.2 4 1 ∧ isB K p f B k ∧ (∀ t, t < k → CP ct φ p M' (149 + t) (B t)) ∧ 1 ≤ k ∧ k ≤ 10 ∧ B 0 = 1 := by
  have hp1 := hp.1.1
  have hF := hp.2.2.1
  have hNf := hf.2
  have hd := c_degreeP K hφ hM ha hf hn
  obtain ⟨m, hme⟩ : ∃ m : Nat, m = nu ct f - 1 := ⟨_, rfl⟩
  have em : (nu ct f : Int) - 1 = (m : Int) := by omega
  have hok1 : ok (oI M 4 2 0) := ok_oI hM (by omega)
  have hf1' : CP ct φ p (oI M 4 2 0) a f := hf
  obtain ⟨M3, Rr, e3, hok3, hc3, hX3, hR, hv3, hR0⟩ := c_fillMatrix K hp hφ hp2 hok1 ha ha1 (by omega) hmp hf1' hN2 hf1 hn
  rw [← hme] at hX3
  obtain ⟨M4, hM4⟩ : ∃ M4, M4 = wiM M3 23 0 10 (fun _ => -1) := ⟨_, rfl⟩
  have e4 : f_J7_fill_53178 n 23 (-1) M3 = some M4 := by rw [hM4]; exact j_fillI (a := 23) rfl (by decide) (-1) hn
  have hok4 : ok M4 := by rw [hM4]; exact ok_wiM hok3 (fun _ _ => by omega)
  have h41 : M4.1 = M3.1 := by rw [hM4]; rfl
  have h42 : ∀ k i, k ≠ 23 → M4.2 k i = (oI M 4 2 0).2 k i := fun k i hk => by rw [hM4, wiM_2, if_neg (fun z => hk z.1), hc3.1]
  have h4p : ∀ c, c < m → M4.2 23 c < 0 := fun c hc => by rw [hM4, wiM_2, if_pos (by omega)]; omega
  obtain ⟨A0, hA0⟩ : ∃ A0 : Nat → Nat → R, A0 = fun i j => φ (M4.1 (139 + i) j) := ⟨_, rfl⟩
  have hA0z : ∀ c, c < m → A0 0 c = 0 := fun c hc => by
    rw [hA0]; dsimp only
    rw [h41, hv3 0 c (by omega) (by omega), hR0, p_one K]
    by_cases z : c = 0
    · rw [if_pos z, if_pos z.symm]; grind
    · rw [if_neg z, if_neg (fun w => z w.symm)]; grind
  obtain ⟨M14, hL, hok14, hc14, h141, fc, fr, hfcN, hGI, hfr, hinj, hall, hrow, hfc1, hfr0, hz0⟩ := lp_do (step := l_X6_findFixed_32 n m) (fun st => ok st.1 ∧ chS RSX M4 st.1 ∧ st.1.2 4 1 = M4.2 4 1 ∧ ∃ (r fc : Nat) (fr : Nat → Nat), st.2 = r ∧ r ≤ m ∧ st.1.2 4 2 = fc ∧ fc ≤ r ∧ MXr p m st.1 ∧ GI m A0 (fun i j => φ (st.1.1 (139 + i) j)) (fun c => st.1.2 23 c) r ∧ (∀ t, t < fc → fr t < r ∧ ∀ c, c < m → st.1.2 23 c ≠ fr t) ∧ (∀ s t, s < t → t < fc → fr s ≠ fr t) ∧ (∀ k, k < r → (∀ c, c < m → st.1.2 23 c ≠ k) → ∃ t, t < fc ∧ fr t = k) ∧ (∀ t, t < fc → ∀ i, i < 11 → 0 ≤ st.1.1 (149 + t) i ∧ st.1.1 (149 + t) i < p ∧ φ (st.1.1 (149 + t) i) = if i < m then Wv m (fun i j => φ (st.1.1 (139 + i) j)) (fun c => st.1.2 23 c) (fr t) i else 0) ∧ (0 < r → 0 < fc ∧ fr 0 = 0) ∧ ∀ c, c < m → φ (st.1.1 (139 + 0) c) = 0) (fun st => (30 - st.2).toNat) (fun M' => ok M' ∧ chS RSX M4 M' ∧ M'.2 4 1 = M4.2 4 1 ∧ ∃ (fc : Nat) (fr : Nat → Nat), (M'.2 4 2 = fc ∧ fc ≤ m) ∧ GI m A0 (fun i j => φ (M'.1 (139 + i) j)) (fun c => M'.2 23 c) m ∧ (∀ t, t < fc → fr t < m ∧ ∀ c, c < m → M'.2 23 c ≠ fr t) ∧ (∀ s t, s < t → t < fc → fr s ≠ fr t) ∧ (∀ k, k < m → (∀ c, c < m → M'.2 23 c ≠ k) → ∃ t, t < fc ∧ fr t = k) ∧ (∀ t, t < fc → ∀ i, i < 11 → 0 ≤ M'.1 (149 + t) i ∧ M'.1 (149 + t) i < p ∧ φ (M'.1 (149 + t) i) = if i < m then Wv m (fun i j => φ (M'.1 (139 + i) j)) (fun c => M'.2 23 c) (fr t) i else 0) ∧ 0 < fc ∧ fr 0 = 0 ∧ ∀ c, c < m → φ (M'.1 (139 + 0) c) = 0) (fun st hst => by
    obtain ⟨Ma, y⟩ := st
    obtain ⟨k1, k2, k3, r, fc, fr, hy, hrm, hfc, hfcr, hX, hGI, hfr, hinj, hall, hrow, h0, hz⟩ := hst
    dsimp only at k1 k2 k3 hy hfc hX hGI hfr hall hrow hz
    subst hy
    unfold l_X6_findFixed_32
    dsimp only
    rw [gI_s (by omega) (by omega), bs]
    by_cases hlt : (m : Int) ≤ r
    · rw [if_pos hlt]
      have e : r = m := by omega
      subst e
      obtain ⟨f1, f2⟩ := h0 (by omega)
      exact Or.inl ⟨_, rfl, k1, k2, k3, fc, fr, ⟨hfc, hfcr⟩, hGI, hfr, hinj, hall, hrow, f1, f2, hz⟩
    · rw [if_neg hlt]
      rcases c_findPivot hφ k1 (m := m) (r := r) (by omega) (by omega) hX hn with ⟨c, hc, efp, hpc, hpne⟩ | ⟨efp, hno⟩
      · have hr0 : 0 < r := by
          rcases Nat.eq_zero_or_pos r with z | z
          · exfalso; rw [z] at hpne; exact hpne (hz c hc)
          · exact z
        have hmpa : Ma.1 1 0 = p := by rw [k2.1 1 0 (by simp [RSX]), h41, hc3.2 1 0 (by simp)]; exact hmp
        obtain ⟨Mb, s, eb, hokb, hcb, hXb, hs, hb1, hb2, hb3⟩ := c_clearRow hp hφ hp2 k1 hmpa (m := m) (r := r) (c := c) (by omega) (by omega) hc hX hpne (fun i hi => hGI.2.2.2 i c hi hc hpc) hn
        rw [efp, bs, gI_s (by omega) (by omega), bs, if_pos (by omega), eb, bs, osI_n (k := 23) c rfl rfl (show c < 10 by omega), bs, bs]
        have hpv1 : (oI Mb 23 c (r : Int)).2 23 c = r := by rw [oI_2, if_pos ⟨rfl, rfl⟩]
        have hpv2 : ∀ d, d ≠ c → (oI Mb 23 c (r : Int)).2 23 d = Ma.2 23 d := fun d hd => by rw [oI_2, if_neg (fun z => hd z.2), hcb.1]
        have hGI' : GI m A0 (fun i j => φ ((oI Mb 23 c (r : Int)).1 (139 + i) j)) (fun d => (oI Mb 23 c (r : Int)).2 23 d) (r + 1) := GI_piv hGI hc hpc hs hb1 hb2 (by omega) hpv1 hpv2
        have hWk : ∀ t, t < fc → ∀ i, Wv m (fun i j => φ ((oI Mb 23 c (r : Int)).1 (139 + i) j)) (fun d => (oI Mb 23 c (r : Int)).2 23 d) (fr t) i = Wv m (fun i j => φ (Ma.1 (139 + i) j)) (fun d => Ma.2 23 d) (fr t) i := fun t ht i => by
          have hft := (hfr t ht).1
          unfold Wv
          congr 1
          refine sm_congr (fun d hd => ?_)
          by_cases z : d = c
          · rw [z, if_neg (show ¬ Ma.2 23 c = (i : Int) by omega)]
            have h5 : φ (Mb.1 (139 + fr t) c) = 0 := by rw [hb3 (fr t) hft]; exact hGI.2.2.2 (fr t) c hft hc hpc
            split
            · exact h5
            · rfl
          · have h6 : φ ((oI Mb 23 c (r : Int)).1 (139 + fr t) d) = φ (Ma.1 (139 + fr t) d) := congrArg φ (hb3 (fr t) hft d)
            by_cases w : Ma.2 23 d = (i : Int)
            · rw [if_pos w, if_pos (show (oI Mb 23 c (r : Int)).2 23 d = (i : Int) by rw [hpv2 d z]; exact w)]
              exact h6
            · rw [if_neg w, if_neg (show ¬ (oI Mb 23 c (r : Int)).2 23 d = (i : Int) by rw [hpv2 d z]; exact w)]
        refine Or.inr ⟨_, rfl, ⟨ok_oI hokb (by omega), ?_, ?_, r + 1, fc, fr, by dsimp only; omega, by omega, ?_, by omega, hXb, hGI', fun t ht => ?_, hinj, fun k hk hkf => ?_, fun t ht i hi => ?_, fun _ => h0 hr0, fun d hd => ?_⟩, by dsimp only; omega⟩
        · exact chS_mono (chS_trans k2 (chS_trans (chS_of hcb) (show chS [] Mb (oI Mb 23 c (r : Int)) from ⟨fun _ _ _ => rfl, fun k i hk _ => by rw [oI_2, if_neg (fun z => hk z.1)]⟩))) (fun x hx => by simp [RSX] at hx ⊢; omega)
        · dsimp only; rw [oI_2, if_neg (by omega), hcb.1]; exact k3
        · dsimp only; rw [oI_2, if_neg (by omega), hcb.1]; exact hfc
        · obtain ⟨x1, x2⟩ := hfr t ht
          refine ⟨by omega, fun d hd => ?_⟩
          dsimp only
          by_cases z : d = c
          · rw [z, hpv1]; omega
          · rw [hpv2 d z]; exact x2 d hd
        · rcases Nat.lt_or_ge k r with z | z
          · refine hall k z (fun d hd => ?_)
            have := hkf d hd
            by_cases w : d = c
            · rw [w]; omega
            · rw [hpv2 d w] at this; exact this
          · exfalso
            have := hkf c hc
            rw [hpv1] at this
            omega
        · dsimp only
          rw [hWk t ht i, show (oI Mb 23 c (r : Int)).1 (149 + t) i = Ma.1 (149 + t) i from hcb.2 (149 + t) i (by simp; omega)]
          exact hrow t ht i hi
        · show φ (Mb.1 (139 + 0) d) = 0
          rw [hb3 0 hr0 d]; exact hz d hd
      · have hpvr : ∀ c, c < m → 0 ≤ Ma.2 23 c → Ma.2 23 c < r := fun c hc h => (hGI.2.1 c hc h).1
        obtain ⟨Mb, eb, hokb, hb1, hb2, hb3, hb4⟩ := c_addFixed hp hφ k1 (m := m) (r := r) (fc := fc) (by omega) (by omega) hfc (by omega) hX hpvr (fun c d hc hd h0 he => hGI.2.2.1 c d hc hd h0 he) hn
        rw [efp, bs, gI_s (by omega) (by omega), bs, if_neg (by omega), eb, bs, bs]
        have hA' : (fun i j => φ (Mb.1 (139 + i) j)) = (fun i j => φ (Ma.1 (139 + i) j)) ∨ True := Or.inr trivial
        have hrowsame : ∀ i j, i < 10 → Mb.1 (139 + i) j = Ma.1 (139 + i) j := fun i j hi => hb1 (139 + i) j (by omega)
        have hpvsame : ∀ c, Mb.2 23 c = Ma.2 23 c := fun c => hb2 23 c (by omega)
        have hGIc : ∀ {r'}, GI m A0 (fun i j => φ (Ma.1 (139 + i) j)) (fun c => Ma.2 23 c) r' → r' ≤ m → GI m A0 (fun i j => φ (Mb.1 (139 + i) j)) (fun c => Mb.2 23 c) r' := fun {r'} h hr' => by
          obtain ⟨g1, g2, g3, g4⟩ := h
          refine ⟨fun v => (g1 v).trans ?_, fun c hc h0 => ?_, fun c d hc hd h0 he => ?_, fun i j hi hj hp => ?_⟩
          · constructor
            · intro h j hj
              rw [← h j hj]
              exact sm_congr (fun i hi => by show v i * φ (Mb.1 (139 + i) j) = v i * φ (Ma.1 (139 + i) j); rw [hrowsame i j (by omega)])
            · intro h j hj
              rw [← h j hj]
              exact sm_congr (fun i hi => by show v i * φ (Ma.1 (139 + i) j) = v i * φ (Mb.1 (139 + i) j); rw [hrowsame i j (by omega)])
          · dsimp only at h0 ⊢
            rw [hpvsame] at h0 ⊢
            obtain ⟨a, b, d⟩ := g2 c hc h0
            have a' : Ma.2 23 c < r' := a
            refine ⟨a, by rw [hrowsame (Ma.2 23 c).toNat c (by omega)]; exact b, fun j hj hne => by rw [hrowsame (Ma.2 23 c).toNat j (by omega)]; exact d j hj hne⟩
          · dsimp only at h0 he
            rw [hpvsame] at h0 he
            rw [hpvsame] at he
            exact g3 c d hc hd h0 he
          · dsimp only at hp ⊢
            rw [hpvsame] at hp
            rw [hrowsame i j (by omega)]
            exact g4 i j hi hj hp
        have hWs : ∀ k, k < m → ∀ i, Wv m (fun i j => φ (Mb.1 (139 + i) j)) (fun c => Mb.2 23 c) k i = Wv m (fun i j => φ (Ma.1 (139 + i) j)) (fun c => Ma.2 23 c) k i := fun k hk i => by
          unfold Wv
          congr 1
          refine sm_congr (fun d hd => ?_)
          by_cases w : Ma.2 23 d = (i : Int)
          · rw [if_pos w, if_pos (show Mb.2 23 d = (i : Int) by rw [hpvsame]; exact w)]
            exact congrArg φ (hrowsame k d (by omega))
          · rw [if_neg w, if_neg (show ¬ Mb.2 23 d = (i : Int) by rw [hpvsame]; exact w)]
        refine Or.inr ⟨_, rfl, ⟨hokb, ?_, ?_, r + 1, fc + 1, fun t => if t = fc then r else fr t, by dsimp only; omega, by omega, hb3, by omega, fun i j hi hj => ?_, hGIc (GI_free hGI hno) (by omega), fun t ht => ?_, fun s t hst ht => ?_, fun k hk hkf => ?_, fun t ht i hi => ?_, fun _ => ⟨by omega, ?_⟩, fun d hd => ?_⟩, by dsimp only; omega⟩
        · exact chS_mono (chS_trans k2 (show chS [149 + fc] Ma Mb from ⟨fun k i hk => hb1 k i (by simpa using hk), fun k i _ hk => hb2 k i (fun z => hk ⟨z.1, Or.inr z.2⟩)⟩)) (fun x hx => by simp [RSX] at hx ⊢; omega)
        · dsimp only; rw [hb2 4 1 (by omega)]; exact k3
        · dsimp only; rw [hrowsame i j (by omega)]; exact hX i j hi hj
        · dsimp only
          by_cases z : t = fc
          · rw [if_pos z]
            refine ⟨by omega, fun c hc w => ?_⟩
            rw [hpvsame] at w
            have := hpvr c hc (by omega)
            omega
          · rw [if_neg z]
            obtain ⟨x1, x2⟩ := hfr t (by omega)
            exact ⟨by omega, fun c hc => by rw [hpvsame]; exact x2 c hc⟩
        · dsimp only
          rw [if_neg (show ¬ s = fc by omega)]
          by_cases z : t = fc
          · rw [if_pos z]; have := (hfr s (by omega)).1; omega
          · rw [if_neg z]; exact hinj s t hst (by omega)
        · rcases Nat.lt_or_ge k r with z | z
          · obtain ⟨t, ht, e⟩ := hall k z (fun c hc => by rw [← hpvsame]; exact hkf c hc)
            exact ⟨t, by omega, by dsimp only; rw [if_neg (by omega)]; exact e⟩
          · exact ⟨fc, by omega, by dsimp only; rw [if_pos rfl]; omega⟩
        · dsimp only
          by_cases z : t = fc
          · rw [if_pos z, z, hWs r (by omega)]
            exact hb4 i hi
          · rw [if_neg z, hb1 (149 + t) i (by omega), hWs (fr t) (by have := (hfr t (by omega)).1; omega)]
            exact hrow t (by omega) i hi
        · dsimp only
          rcases Nat.eq_zero_or_pos r with z | z
          · rw [if_pos (by omega)]; exact z
          · rw [if_neg (by have := (h0 z).1; omega)]; exact (h0 z).2
        · dsimp only; rw [hrowsame 0 d (by omega)]; exact hz d hd) n (M4, 0) ⟨hok4, chS_refl _ _, rfl, 0, 0, fun _ => 0, rfl, by omega, by rw [h42 4 2 (by omega), oI_2, if_pos ⟨rfl, rfl⟩]; rfl, by omega, fun i j hi hj => by rw [h41]; exact hX3 i j hi hj, by rw [hA0]; exact GI_0 m _ h4p, fun t ht => absurd ht (by omega), fun s t _ ht => absurd ht (by omega), fun k hk => absurd hk (by omega), fun t ht => absurd ht (by omega), fun h => absurd h (by omega), fun c hc => by have := hA0z c hc; rw [hA0] at this; exact this⟩ (by dsimp only; omega)
  -- the rows as polynomials
  have hBex : ∀ t, ∃ b : T, ∀ i, ct b i = if i < m then Wv m (fun i j => φ (M14.1 (139 + i) j)) (fun c => M14.2 23 c) (fr t) i else 0 := fun t => K.2.2.2.2.1 (fun i => if i < m then Wv m (fun i j => φ (M14.1 (139 + i) j)) (fun c => M14.2 23 c) (fr t) i else 0) m (fun i hi => if_neg (by omega))
  obtain ⟨B, hB⟩ : ∃ B : Nat → T, ∀ t i, ct (B t) i = if i < m then Wv m (fun i j => φ (M14.1 (139 + i) j)) (fun c => M14.2 23 c) (fr t) i else 0 := ⟨fun t => Classical.choose (hBex t), fun t => Classical.choose_spec (hBex t)⟩
  have hIsB : isB K p f B fc := by
    refine berl_base K hp hN2 (A0 := A0) (A := fun i j => φ (M14.1 (139 + i) j)) (Rr := Rr) hR (fun i j hi hj => ?_) (pv := fun c => M14.2 23 c) (by rw [← hme]; exact hGI) (fr := fr) (fun t ht => ⟨by have := (hfr t ht).1; omega, fun c hc => (hfr t ht).2 c (by omega)⟩) hinj (fun k hk hkf => hall k (by omega) (fun c hc => hkf c (by omega))) (fun t ht i => by rw [← hme]; exact hB t i)
    rw [hA0]; dsimp only
    rw [h41]; exact hv3 i j hi hj
  have hB0 : B 0 = 1 := p_ext K (fun i => by
    rw [hB 0 i, p_one K, hfr0]
    by_cases z : i < m
    · rw [if_pos z]
      unfold Wv
      rw [sm_zero (fun d hd => by
        have := hz0 d hd
        split
        · exact this
        · rfl)]
      split <;> grind
    · rw [if_neg z, if_neg (by omega)])
  refine ⟨M14, B, fc, ?_, hok14, ?_, hfcN.1, ?_, hIsB, fun t ht => ⟨fun i hi => by rw [hB t i]; exact hrow t ht i hi, nu_le K (fun i hi => by rw [hB t i, if_neg (by omega)])⟩, hfc1, by omega, hB0⟩
  · unfold f_X6_findFixed
    rw [hd, bs]
    show Option.bind (some (oI M 4 2 0)) _ = _
    rw [bs, gI_s (by omega) (by omega), bs, if_pos (by omega), e3, bs, e4, bs, em, hL, bs]
  · refine ⟨fun k i hk => ?_, fun k i h1 h2 => ?_⟩
    · rw [hc14.1 k i hk, h41, hc3.2 k i (by simp [RSX] at hk ⊢; omega)]; rfl
    · rw [hc14.2 k i h1 h2, h42 k i h1, oI_2, if_neg (by omega)]
  · rw [h141, h42 4 1 (by omega), oI_2, if_neg (by omega)]
end MCls9
