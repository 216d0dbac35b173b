/-! loops that count up, rows written one by one; load, store, great, derive, takePrime -/
section MRefH
theorem lp_for {σ ρ : Type} {step : σ → Option (ρ ⊕ σ)} (F : Nat → σ) (r : ρ) : ∀ (b n : Nat) (_ : ∀ k, k < b → step (F k) = some (.inr (F (k + 1)))) (_ : step (F b) = some (.inl r)) (_ : b < n), lpF step n (F 0) = some r
  | b, 0, _, _, hn => absurd hn (by omega)
  | 0, n + 1, _, he, _ => by simp only [lpF, he]
  | b + 1, n + 1, h, he, hn => by
    simp only [lpF, h 0 (by omega)]
    exact lp_for (fun k => F (k + 1)) r b n (fun k hk => h (k + 1) (by omega)) he (by omega)
def wrM (M : MI) (a lo j : Nat) (v : Nat → Int) : MI := (fun k i => if k = a ∧ lo ≤ i ∧ i < lo + j then v (i - lo) else M.1 k i, M.2)
def wiM (M : MI) (a lo j : Nat) (v : Nat → Int) : MI := (M.1, fun k i => if k = a ∧ lo ≤ i ∧ i < lo + j then v (i - lo) else M.2 k i)
theorem wrM_0 (M : MI) (a lo : Nat) (v : Nat → Int) : wrM M a lo 0 v = M := Prod.ext (funext fun k => funext fun i => if_neg (by omega)) rfl
theorem wiM_0 (M : MI) (a lo : Nat) (v : Nat → Int) : wiM M a lo 0 v = M := Prod.ext rfl (funext fun k => funext fun i => if_neg (by omega))
theorem wrM_s (M : MI) (a lo j : Nat) (v : Nat → Int) : oJ (wrM M a lo j v) a (lo + j) (v j) = wrM M a lo (j + 1) v := Prod.ext (funext fun k => funext fun i => by
  rw [oJ_1]; unfold wrM; dsimp only
  by_cases h : k = a ∧ i = lo + j
  · rw [if_pos h, if_pos (by omega), show i - lo = j by omega]
  · rw [if_neg h]
    by_cases h2 : k = a ∧ lo ≤ i ∧ i < lo + j
    · rw [if_pos h2, if_pos (by omega)]
    · rw [if_neg h2, if_neg (by omega)]) rfl
theorem wiM_s (M : MI) (a lo j : Nat) (v : Nat → Int) : oI (wiM M a lo j v) a (lo + j) (v j) = wiM M a lo (j + 1) v := Prod.ext rfl (funext fun k => funext fun i => by
  rw [oI_2]; unfold wiM; dsimp only
  by_cases h : k = a ∧ i = lo + j
  · rw [if_pos h, if_pos (by omega), show i - lo = j by omega]
  · rw [if_neg h]
    by_cases h2 : k = a ∧ lo ≤ i ∧ i < lo + j
    · rw [if_pos h2, if_pos (by omega)]
    · rw [if_neg h2, if_neg (by omega)])
theorem wrM_1 (M : MI) (a lo j : Nat) (v : Nat → Int) (k i : Nat) : (wrM M a lo j v).1 k i = if k = a ∧ lo ≤ i ∧ i < lo + j then v (i - lo) else M.1 k i := rfl
theorem wiM_2 (M : MI) (a lo j : Nat) (v : Nat → Int) (k i : Nat) : (wiM M a lo j v).2 k i = if k = a ∧ lo ≤ i ∧ i < lo + j then v (i - lo) else M.2 k i := rfl
theorem ok_wrM {M : MI} (h : ok M) {a lo j : Nat} {v : Nat → Int} (hv : ∀ i, i < j → inJ (v i)) : ok (wrM M a lo j v) := ⟨fun k i => by
  rw [wrM_1]; split
  · exact hv _ (by omega)
  · exact h.1 k i, h.2⟩
theorem ok_wiM {M : MI} (h : ok M) {a lo j : Nat} {v : Nat → Int} (hv : ∀ i, i < j → inI (v i)) : ok (wiM M a lo j v) := ⟨h.1, fun k i => by
  rw [wiM_2]; split
  · exact hv _ (by omega)
  · exact h.2 k i⟩
theorem chg_wrM (M : MI) (s j : Nat) (hj : j ≤ 24) (v : Nat → Int) : chg [s] M (wrM M 41 (24 * s) j v) := chg_win rfl (fun k i h => by rw [wrM_1, if_neg (by omega)])
theorem wv_wrM (M : MI) (s j : Nat) (hj : j ≤ 24) (v : Nat → Int) {a i : Nat} (hi : i < 24) : wv (wrM M 41 (24 * s) j v) a i = if a = s ∧ i < j then v i else wv M a i := by
  show (wrM M 41 (24 * s) j v).1 41 (24 * a + i) = _
  rw [wrM_1]
  by_cases h : a = s ∧ i < j
  · rw [if_pos h, if_pos (by omega), h.1, show 24 * s + i - 24 * s = i by omega]
  · rw [if_neg h, if_neg (by omega)]
theorem s_trimZ {S : Type} [Lean.Grind.CommRing S] {co : S → Nat → Int} (P : isPol co) {M : MI} (hM : ok M) {s : Nat} (hs : s < 60) {t : Int} (ht : t ≤ 23) (ht0 : -1 ≤ t) {f : S} (hf : ∀ j : Nat, (j : Int) ≤ t → wv M s j = co f j) (hf2 : ∀ j : Nat, t < j → co f j = 0) {n : Nat} (hn : 18446744073709551616 ≤ n) : f_X8_trim n s t M = some (oI M 42 s ((nu co f : Int) - 1)) ∧ RZ co (oI M 42 s ((nu co f : Int) - 1)) s f ∧ ok (oI M 42 s ((nu co f : Int) - 1)) := by
  obtain ⟨d, h1, h2, h3, h4, h5⟩ := s_trim hM hs ht (by omega) (n := n) (by omega)
  have hd : d = (nu co f : Int) - 1 := by
    have e : nu co f = (d + 1).toNat := nu_eq P (fun i hi => by
      rcases Int.lt_or_le t i with q | q
      · exact hf2 i q
      · rw [← hf i q]; exact h4 i (by omega) q) (fun hne => by
      have e2 : d = (((d + 1).toNat - 1 : Nat) : Int) := by omega
      rw [← hf _ (by omega)]
      exact h5 _ e2)
    omega
  rw [hd] at h1 h2
  refine ⟨h1, ⟨?_, fun j hj => ?_⟩, ok_oI hM (by omega)⟩
  · show (oI M 42 s ((nu co f : Int) - 1)).2 42 s = _
    rw [oI_2, if_pos ⟨rfl, rfl⟩]
  · show (oI M 42 s ((nu co f : Int) - 1)).1 41 (24 * s + j) = _
    rw [oI_1]; exact hf j (by omega)
theorem k38 : kd 38 = 1 ∧ kn 38 = 880 := ⟨rfl, rfl⟩
theorem k37 : kd 37 = 1 ∧ kn 37 = 20 := ⟨rfl, rfl⟩
theorem s_load {S : Type} [Lean.Grind.CommRing S] {co : S → Nat → Int} (P : isPol co) {M : MI} (hM : ok M) {p s : Nat} (hp : p < 80) (hs : s < 60) {f : S} (hf : ∀ k, k < 11 → co f k = M.2 38 (11 * p + k)) (hf2 : ∀ k, 11 ≤ k → co f k = 0) {n : Nat} (hn : 18446744073709551616 ≤ n) : ∃ M', f_X8_load n p s M = some M' ∧ ok M' ∧ chg [s] M M' ∧ RZ co M' s f := by
  have hL : lpF (l_X8_load_2 p s) n (M, 0) = some (wrM M 41 (24 * s) 11 (co f)) := by
    have e := lp_for (step := l_X8_load_2 p s) (fun k => (wrM M 41 (24 * s) k (co f), (k : Int))) (wrM M 41 (24 * s) 11 (co f)) 11 n (fun k hk => by
      have hv := hM.2 38 (11 * p + k)
      unfold l_X8_load_2
      dsimp only
      rw [gI_s (by omega) (by omega), bs, if_neg (by omega), odI_n (11 * p + k) rfl (by omega) (by rw [k38.2]; omega), bs, show (wrM M 41 (24 * s) k (co f)).2 = M.2 from rfl, gI_s hv (by omega), bs, osJ_n (24 * s + k) rfl (by omega) (by rw [k41.2]; omega), bs, ← hf k hk, wrM_s]
      rfl) (by
      unfold l_X8_load_2
      dsimp only
      rw [gI_s (by omega) (by omega), bs, if_pos (by omega)]) (by omega)
    rw [wrM_0] at e
    exact e
  have hok : ok (wrM M 41 (24 * s) 11 (co f)) := ok_wrM hM (fun i hi => by have := hM.2 38 (11 * p + i); rw [hf i hi]; omega)
  obtain ⟨t1, t2, t3⟩ := s_trimZ P hok hs (t := 10) (by omega) (by omega) (f := f) (fun j hj => by rw [wv_wrM _ _ _ (by omega) _ (by omega), if_pos ⟨rfl, by omega⟩]) (fun j hj => hf2 j (by omega)) hn
  refine ⟨_, ?_, t3, chg_mono (chg_trans (chg_wrM M s 11 (by omega) _) (chg_oI _)) (fun x hx => by simpa using hx), t2⟩
  unfold f_X8_load
  rw [hL, bs, t1, bs]
theorem s_store {M : MI} (hM : ok M) {s g : Nat} (hs : s < 60) (hg : M.2 36 2 = g) (hg80 : g < 80) {v : Nat → Int} (hv : ∀ k, k < 11 → v k = if (k : Int) ≤ dg M s then wv M s k else 0) (hr : ∀ k, k < 11 → inI (v k)) {n : Nat} (hn : 18446744073709551616 ≤ n) : f_X8_store n s M = some ((g : Int), oI (wiM M 38 (11 * g) 11 v) 36 2 (g + 1)) := by
  have hL : lpF (l_X8_store_2 s) n (M, 0) = some (wiM M 38 (11 * g) 11 v) := by
    have e := lp_for (step := l_X8_store_2 s) (fun k => (wiM M 38 (11 * g) k v, (k : Int))) (wiM M 38 (11 * g) 11 v) 11 n (fun k hk => by
      have hv1 := hr k hk
      have e1 : (wiM M 38 (11 * g) k v).2 36 2 = g := by rw [wiM_2, if_neg (by omega), hg]
      have e2 : dg (wiM M 38 (11 * g) k v) s = dg M s := by show (wiM M 38 (11 * g) k v).2 42 s = _; rw [wiM_2, if_neg (by omega)]
      have e3 : wv (wiM M 38 (11 * g) k v) s k = wv M s k := rfl
      have hok : ok (wiM M 38 (11 * g) k v) := ok_wiM hM (fun i hi => hr i (by omega))
      unfold l_X8_store_2
      dsimp only
      rw [gI_s (by omega) (by omega), bs, if_neg (by omega), s_get hok hs (by omega), bs, e2, e3, ← hv k hk, gJ_s (by omega) (by omega), bs, e1, osI_n (11 * g + k) rfl (by omega) (by rw [k38.2]; omega), bs, wiM_s]
      rfl) (by
      unfold l_X8_store_2
      dsimp only
      rw [gI_s (by omega) (by omega), bs, if_pos (by omega)]) (by omega)
    rw [wiM_0] at e
    exact e
  have e1 : (wiM M 38 (11 * g) 11 v).2 36 2 = g := by rw [wiM_2, if_neg (by omega), hg]
  unfold f_X8_store
  rw [hL, bs]
  unfold opI
  rw [bs, e1, oI_2, if_pos ⟨rfl, rfl⟩, show (g : Int) + 1 - 1 = g by omega]
theorem s_great {S : Type} [Lean.Grind.CommRing S] {co : S → Nat → Int} (P : isPol co) {M : MI} (hM : ok M) {s : Nat} (hs : s < 60) {f : S} (hf : RZ co M s f) (hN : nu co f ≤ 24) (hB : ∀ i, -9223372036854775807 ≤ co f i) {n : Nat} (hn : 18446744073709551616 ≤ n) : ((nu co f ≤ 11 ∧ ∀ i, nz (co f i) ≤ 9999) → f_X8_great n s M = some 0) ∧ (¬ (nu co f ≤ 11 ∧ ∀ i, nz (co f i) ≤ 9999) → f_X8_great n s M = some 1) := by
  have hd : M.2 42 s = (nu co f : Int) - 1 := hf.1
  have key : nu co f ≤ 11 → ∃ r, lpF (l_X8_great_15 s M) n 0 = some r ∧ ((r = .inr () ∧ ∀ i, nz (co f i) ≤ 9999) ∨ (r = .inl 1 ∧ ¬ ∀ i, nz (co f i) ≤ 9999)) := by
    intro h11
    refine lp_do (step := l_X8_great_15 s M) (fun st => ∃ k : Nat, st = k ∧ k ≤ nu co f ∧ ∀ i, i < k → nz (co f i) ≤ 9999) (fun st => (nu co f - st).toNat) _ (fun st hst => ?_) n 0 ⟨0, rfl, by omega, fun i hi => absurd hi (by omega)⟩ (by omega)
    obtain ⟨k, hk, hk1, hk2⟩ := hst
    subst hk
    unfold l_X8_great_15
    rw [odI_n s rfl rfl (by rw [k42.2]; exact hs), bs, hd, gI_s (by omega) (by omega), bs]
    by_cases hlt : (nu co f : Int) - 1 < k
    · rw [if_pos hlt]
      refine Or.inl ⟨_, rfl, Or.inl ⟨rfl, fun i => ?_⟩⟩
      rcases Nat.lt_or_ge i (nu co f) with q | q
      · exact hk2 i (by omega)
      · rw [nu_hi P f q]; decide
    · have hw : M.1 41 (24 * s + k) = co f k := hf.2 k (by omega)
      have hB1 := hB k
      have hB2 := (hM.1 41 (24 * s + k)).2
      rw [if_neg hlt, odJ_n (24 * s + k) rfl (by omega) (by rw [k41.2]; omega), bs, s_abs (hM.1 _ _), bs]
      rw [hw] at hB2 ⊢
      have ea : (if co f k < 0 then - co f k else co f k) = nz (co f k) := by unfold nz; split <;> omega
      have hnz : nz (co f k) ≤ 9223372036854775807 := by unfold nz; omega
      rw [ea, gJ_s ⟨by have := nz_nn (co f k); omega, hnz⟩ (by omega), bs]
      by_cases h9 : nz (co f k) ≤ 9999
      · rw [if_pos h9]
        refine Or.inr ⟨_, rfl, ⟨k + 1, by omega, by omega, fun i hi => ?_⟩, by omega⟩
        rcases Nat.lt_or_ge i k with q | q
        · exact hk2 i q
        · rw [show i = k by omega]; exact h9
      · rw [if_neg h9]
        exact Or.inl ⟨_, rfl, Or.inr ⟨rfl, fun h => h9 (h k)⟩⟩
  have hd1 : odI M 42 s = some ((nu co f : Int) - 1) := by rw [odI_n s rfl rfl (by rw [k42.2]; exact hs), hd]
  unfold f_X8_great
  rw [hd1, bs, gI_s (by omega) (by omega), bs]
  constructor
  · rintro ⟨h1, h2⟩
    obtain ⟨r, hr, hr2⟩ := key h1
    rw [if_pos (by omega), hr]
    rcases hr2 with ⟨q, _⟩ | ⟨_, q⟩
    · rw [q]; rfl
    · exact absurd h2 q
  · intro h
    by_cases h1 : nu co f ≤ 11
    · obtain ⟨r, hr, hr2⟩ := key h1
      rw [if_pos (by omega), hr]
      rcases hr2 with ⟨_, q⟩ | ⟨q, _⟩
      · exact absurd ⟨h1, q⟩ h
      · rw [q]; rfl
    · rw [if_neg (by omega)]
theorem nt_int : ∀ (n : Nat), (nt n : Int) = n
  | 0 => rfl
  | n + 1 => by rw [nt_succ, nt_int n]; omega
theorem s_derive {S : Type} [Lean.Grind.CommRing S] {co : S → Nat → Int} (P : isPol co) {M : MI} (hM : ok M) {a b : Nat} (ha : a < 60) (hb : b < 60) (hab : a ≠ b) {f : S} (hf : RZ co M a f) (hN : nu co f ≤ 24) (hN0 : nu co f ≠ 0) (hB : ∀ i, nz (co f i) ≤ 100000000000000000) {n : Nat} (hn : 18446744073709551616 ≤ n) : ∃ M', f_X8_derive n a b M = some M' ∧ ok M' ∧ chg [b] M M' ∧ RZ co M' b (dr P f) := by
  have hd : M.2 42 a = (nu co f : Int) - 1 := hf.1
  have hdr : ∀ i, co (dr P f) i = (i + 1 : Nat) * co f (i + 1) := fun i => by rw [dr_co P, nt_int]
  have hL : lpF (l_X8_derive_2 a b) n (M, 1) = some (wrM M 41 (24 * b) (nu co f - 1) (co (dr P f))) := by
    have e := lp_for (step := l_X8_derive_2 a b) (fun k => (wrM M 41 (24 * b) k (co (dr P f)), ((k + 1 : Nat) : Int))) (wrM M 41 (24 * b) (nu co f - 1) (co (dr P f))) (nu co f - 1) n (fun k hk => by
      have hw : M.1 41 (24 * a + (k + 1)) = co f (k + 1) := hf.2 (k + 1) (by omega)
      have e3 : (wrM M 41 (24 * b) k (co (dr P f))).1 41 (24 * a + (k + 1)) = co f (k + 1) := by rw [wrM_1, if_neg (by omega), hw]
      unfold l_X8_derive_2
      dsimp only
      rw [odI_n a rfl rfl (by rw [k42.2]; exact ha), bs, show (wrM M 41 (24 * b) k (co (dr P f))).2 = M.2 from rfl, hd, gI_s (by omega) (by omega), bs, if_neg (by omega), gI_s (by omega) (by omega), bs, odJ_n (24 * a + (k + 1)) rfl (by omega) (by rw [k41.2]; omega), bs, e3, osJ_n (24 * b + k) rfl (by omega) (by rw [k41.2]; omega), bs, ← hdr, wrM_s]
      rfl) (by
      unfold l_X8_derive_2
      dsimp only
      rw [odI_n a rfl rfl (by rw [k42.2]; exact ha), bs, show (wrM M 41 (24 * b) (nu co f - 1) (co (dr P f))).2 = M.2 from rfl, hd, gI_s (by omega) (by omega), bs, if_pos (by omega)]) (by omega)
    rw [wrM_0] at e
    exact e
  have hok : ok (wrM M 41 (24 * b) (nu co f - 1) (co (dr P f))) := ok_wrM hM (fun i hi => by
    have h1 := hB (i + 1)
    rw [hdr]
    have h2 : nz (((i + 1 : Nat) : Int) * co f (i + 1)) ≤ 24 * 100000000000000000 := by
      rw [nz_mul]
      have : nz ((i + 1 : Nat) : Int) ≤ 24 := by unfold nz; omega
      have h3 := nz_nn (co f (i + 1))
      have h4 := nz_nn ((i + 1 : Nat) : Int)
      exact Int.mul_le_mul this h1 h3 (by omega)
    unfold nz at h2
    omega)
  obtain ⟨t1, t2, t3⟩ := s_trimZ P hok hb (t := (nu co f : Int) - 2) (by omega) (by omega) (f := dr P f) (fun j hj => by rw [wv_wrM _ _ _ (by omega) _ (by omega), if_pos ⟨rfl, by omega⟩]) (fun j hj => by rw [hdr, nu_hi P f (by omega)]; omega) hn
  refine ⟨_, ?_, t3, chg_mono (chg_trans (chg_wrM M b (nu co f - 1) (by omega) _) (chg_oI _)) (fun x hx => by simpa using hx), t2⟩
  unfold f_X8_derive
  rw [hL, bs, odI_n a rfl rfl (by rw [k42.2]; exact ha), bs, show (wrM M 41 (24 * b) (nu co f - 1) (co (dr P f))).2 = M.2 from rfl, hd, show (nu co f : Int) - 1 - 1 = nu co f - 2 by omega, t1, bs]
theorem s_takePrime {M : MI} (hM : ok M) {k : Nat} (hk : k < 20) : f_X8_takePrime k M = some (oJ M 36 9 (1000000000000 - M.2 37 k)) := by
  unfold f_X8_takePrime
  rw [odI_n k rfl rfl (by rw [k37.2]; exact hk), bs, gI_s (hM.2 _ _) (by omega), bs]
  rfl
end MRefH
