/-! the reference's simple calls -/
section MRop1
def app8 (M M' : MI) (v : Nat → Int) : Prop := M'.2 36 2 = M.2 36 2 + 1 ∧ (∀ (q j : Nat), j < 11 → M'.2 38 (11 * q + j) = if (q : Int) = M.2 36 2 then v j else M.2 38 (11 * q + j)) ∧ (∀ i, M'.2 39 i = M.2 39 i) ∧ (∀ i, M'.2 40 i = M.2 40 i) ∧ M'.2 36 4 = M.2 36 4
theorem s_isPower (a : Int) (ha : inI a) : f_X8_isPower a = some (if 0 ≤ a ∧ a < 11 then 1 else 0) := by
  unfold f_X8_isPower
  rw [gI_s ha (by omega), bs]
  by_cases h1 : a < 0
  · rw [if_pos h1, bs, if_neg (by omega)]; rfl
  · rw [if_neg h1, gI_s ha (by omega), bs]
    by_cases h2 : 11 ≤ a
    · rw [if_pos h2, bs, if_neg (by omega)]; rfl
    · rw [if_neg h2, bs, if_pos (by omega)]; rfl
theorem th_fl (M : MI) (t : Int) : (oI M 36 3 t).2 36 3 = t := by rw [oI_2, if_pos ⟨rfl, rfl⟩]
theorem s_factor {M : MI} (hM : ok M) (h4 : 0 ≤ M.2 36 4 ∧ M.2 36 4 ≤ 10) {a : Int} (ha : inI a) : (0 ≤ a ∧ a < M.2 36 4 ∧ f_X8_factor a M = some (M.2 39 a.toNat, oI M 36 3 0)) ∨ (¬ (0 ≤ a ∧ a < M.2 36 4) ∧ f_X8_factor a M = some (0, oI M 36 3 1)) := by
  unfold f_X8_factor opI
  rw [gI_s ha (by omega), bs]
  by_cases h1 : a < 0
  · refine Or.inr ⟨by omega, ?_⟩
    rw [if_pos h1, bs, bs, th_fl, gI_s (by omega) (by omega), bs, if_neg (by omega), bs]
  · rw [if_neg h1, gI_s ha (by omega), bs]
    by_cases h2 : a < M.2 36 4
    · refine Or.inl ⟨by omega, h2, ?_⟩
      rw [if_pos h2, bs, bs, th_fl, gI_s (by omega) (by omega), bs, if_pos rfl, odI_n a.toNat rfl (by omega) (by rw [k39.2]; omega), bs, bs, oI_2, if_neg (by omega)]
    · refine Or.inr ⟨by omega, ?_⟩
      rw [if_neg h2, bs, bs, th_fl, gI_s (by omega) (by omega), bs, if_neg (by omega), bs]
theorem s_multiplicity {M : MI} (hM : ok M) (h4 : 0 ≤ M.2 36 4 ∧ M.2 36 4 ≤ 10) {a : Int} (ha : inI a) : (0 ≤ a ∧ a < M.2 36 4 ∧ f_X8_multiplicity a M = some (M.2 40 a.toNat, oI M 36 3 0)) ∨ (¬ (0 ≤ a ∧ a < M.2 36 4) ∧ f_X8_multiplicity a M = some (0, oI M 36 3 1)) := by
  unfold f_X8_multiplicity opI
  rw [gI_s ha (by omega), bs]
  by_cases h1 : a < 0
  · refine Or.inr ⟨by omega, ?_⟩
    rw [if_pos h1, bs, bs, th_fl, gI_s (by omega) (by omega), bs, if_neg (by omega), bs]
  · rw [if_neg h1, gI_s ha (by omega), bs]
    by_cases h2 : a < M.2 36 4
    · refine Or.inl ⟨by omega, h2, ?_⟩
      rw [if_pos h2, bs, bs, th_fl, gI_s (by omega) (by omega), bs, if_pos rfl, odI_n a.toNat rfl (by omega) (by rw [k40.2]; omega), bs, bs, oI_2, if_neg (by omega)]
    · refine Or.inr ⟨by omega, ?_⟩
      rw [if_neg h2, bs, bs, th_fl, gI_s (by omega) (by omega), bs, if_neg (by omega), bs]
theorem s_count8 (M : MI) : f_X8_count M = some (M.2 36 2, oI M 36 3 0) := by
  unfold f_X8_count opI
  rw [bs, oI_2, if_neg (by omega)]
/-- a row is kept under the next number -/
theorem s_keepR {M : MI} (hM : ok M) {s g : Nat} (hs : s < 60) (hg : M.2 36 2 = g) (hg80 : g < 80) {v : Nat → Int} (hv : ∀ k, k < 11 → v k = if (k : Int) ≤ dg M s then wv M s k else 0) (hr : ∀ k, k < 11 → inI (v k)) {n : Nat} (hn : 18446744073709551616 ≤ n) : ∃ M', f_X8_store n s M = some ((g : Int), M') ∧ ok M' ∧ ko M M' ∧ app8 M M' v ∧ M'.2 36 3 = M.2 36 3 := by
  refine ⟨_, s_store hM hs hg hg80 hv hr hn, ok_oI (ok_wiM hM hr) (by omega), ⟨fun _ _ _ _ => rfl, fun k i h => by rw [oI_2, if_neg (by omega), wiM_2, if_neg (by omega)]⟩, ⟨?_, fun q j hj => ?_, fun i => ?_, fun i => ?_, ?_⟩, ?_⟩
  · rw [oI_2, if_pos ⟨rfl, rfl⟩, hg]
  · rw [oI_2, if_neg (by omega), wiM_2, hg]
    by_cases z : q = g
    · rw [if_pos (by omega), if_pos (by omega), z, show 11 * g + j - 11 * g = j by omega]
    · rw [if_neg (by omega), if_neg (by omega)]
  · rw [oI_2, if_neg (by omega), wiM_2, if_neg (by omega)]
  · rw [oI_2, if_neg (by omega), wiM_2, if_neg (by omega)]
  · rw [oI_2, if_neg (by omega), wiM_2, if_neg (by omega)]
  · rw [oI_2, if_neg (by omega), wiM_2, if_neg (by omega)]
theorem app8_sm {M M' M'' : MI} {v : Nat → Int} (h : sm8 M M') (h1 : app8 M' M'' v) : app8 M M'' v := by
  obtain ⟨a1, a2, a3, a4, a5⟩ := h1
  obtain ⟨b1, b2, b3, b4, b5⟩ := h
  refine ⟨by rw [a1, b4], fun q j hj => ?_, fun i => by rw [a3, b2], fun i => by rw [a4, b3], by rw [a5, b5]⟩
  rw [a2 q j hj, b4, b1]
theorem s_poly8 {M : MI} (hM : ok M) {g : Nat} (hg : M.2 36 2 = g) (hg80 : g ≤ 80) {n : Nat} (hn : 18446744073709551616 ≤ n) : ∃ r M', f_X8_poly n M = some (r, M') ∧ ok M' ∧ ko M M' ∧ ((g = 80 ∧ M'.2 36 3 = 1 ∧ sm8 M M') ∨ (g < 80 ∧ M'.2 36 3 = 0 ∧ r = g ∧ app8 M M' (fun _ => 0))) := by
  by_cases h : (g : Int) = 80
  · refine ⟨0, oI M 36 3 1, ?_, ok_oI hM (by omega), ko_oI M (a := 36) (by omega) 3 1, Or.inl ⟨by omega, th_fl M 1, sm8_fl M (by omega) (by omega) 1⟩⟩
    unfold f_X8_poly opI
    rw [hg, gI_s (by omega) (by omega), bs, if_pos h, bs, bs, th_fl, gI_s (by omega) (by omega), bs, if_neg (by omega)]
  · have hok1 : ok (oI M 36 3 0) := ok_oI hM (by omega)
    have ec : f_X8_constant 11 0 (oI M 36 3 0) = some (oI (oJ (oI M 36 3 0) 41 (24 * 11) 0) 42 11 (if (0 : Int) = 0 then -1 else 0)) := s_constant (s := 11) (by omega) (x := 0) (by omega)
    rw [if_pos rfl] at ec
    have hok2 : ok (oI (oJ (oI M 36 3 0) 41 (24 * 11) 0) 42 11 (-1)) := ok_oI (ok_oJ hok1 (by omega)) (by omega)
    obtain ⟨M', e, hok', hko', ha, ht⟩ := s_keepR hok2 (s := 11) (g := g) (by omega) (by rw [oI_2, if_neg (by omega), oJ_2, oI_2, if_neg (by omega)]; exact hg) (by omega) (v := fun _ => 0) (fun k _ => by
      rw [show dg (oI (oJ (oI M 36 3 0) 41 (24 * 11) 0) 42 11 (-1)) 11 = -1 by show (oI _ 42 11 (-1)).2 42 11 = -1; rw [oI_2, if_pos ⟨rfl, rfl⟩], if_neg (by omega)]) (fun _ _ => by omega) hn
    have e' : f_X8_store n 11 (oI (oJ (oI M 36 3 0) 41 (24 * 11) 0) 42 11 (-1)) = some ((g : Int), M') := e
    refine ⟨g, M', ?_, hok', ko_trans ⟨fun k i a b => by rw [oI_1, oJ_1, if_neg (by omega)]; rfl, fun k i a => by rw [oI_2, if_neg (by omega), oJ_2, oI_2, if_neg (by omega)]⟩ hko', Or.inr ⟨by omega, by rw [ht, oI_2, if_neg (by omega), oJ_2]; exact th_fl M 0, rfl, app8_sm ⟨fun i => ?_, fun i => ?_, fun i => ?_, ?_, ?_⟩ ha⟩⟩
    · unfold f_X8_poly opI
      rw [hg, gI_s (by omega) (by omega), bs, if_neg h, bs, bs, th_fl, gI_s (by omega) (by omega), bs, if_pos rfl, ec, bs, e', bs]
    all_goals rw [oI_2, if_neg (by omega), oJ_2, oI_2, if_neg (by omega)]
theorem s_set8 {M : MI} (hM : ok M) {a b c : Int} (ha : inI a) (hb : inI b) (hc : inI c) : ∃ r M', f_X8_set a b c M = some (r, M') ∧ ok M' ∧ ko M M' ∧ ((¬ (0 ≤ a ∧ a < 80 ∧ 0 ≤ b ∧ b < 11) ∧ M'.2 36 3 = 1 ∧ sm8 M M') ∨ ((0 ≤ a ∧ a < 80 ∧ 0 ≤ b ∧ b < 11) ∧ ¬ (-9999 ≤ c ∧ c ≤ 9999) ∧ M'.2 36 3 = 2 ∧ sm8 M M') ∨ ((0 ≤ a ∧ a < 80 ∧ 0 ≤ b ∧ b < 11) ∧ (-9999 ≤ c ∧ c ≤ 9999) ∧ M'.2 36 3 = 0 ∧ r = (if M.2 38 (11 * a.toNat + b.toNat) = c then 0 else 1) ∧ (∀ i, M'.2 38 i = if i = 11 * a.toNat + b.toNat then c else M.2 38 i) ∧ (∀ i, M'.2 39 i = M.2 39 i) ∧ (∀ i, M'.2 40 i = M.2 40 i) ∧ M'.2 36 2 = M.2 36 2 ∧ M'.2 36 4 = M.2 36 4)) := by
  have bad : ∀ t : Int, inI t → t ≠ 0 → (Option.bind (f_X8_isPoly a) fun v1 => Option.bind (Option.bind (gI v1 0) fun _ => if v1 = 0 then some (1 : Int) else Option.bind (f_X8_isPower b) fun v2 => Option.bind (gI v2 0) fun _ => if v2 = 0 then some (1) else Option.bind (gI c (-9999)) fun _ => if c < (-9999) then some (2) else Option.bind (gI c (9999)) fun _ => if c ≤ (9999) then some (0) else some (2)) fun v3 => some v3) = some t → f_X8_set a b c M = some (0, oI M 36 3 t) := fun t ht ht0 h => by
    unfold f_X8_set
    rw [s_isPoly a ha, bs] at h ⊢
    obtain ⟨v3, h3⟩ : ∃ v3, (Option.bind (gI (if 0 ≤ a ∧ a < 80 then 1 else 0) 0) fun _ => if (if 0 ≤ a ∧ a < 80 then (1 : Int) else 0) = 0 then some (1 : Int) else Option.bind (f_X8_isPower b) fun v2 => Option.bind (gI v2 0) fun _ => if v2 = 0 then some (1) else Option.bind (gI c (-9999)) fun _ => if c < (-9999) then some (2) else Option.bind (gI c (9999)) fun _ => if c ≤ (9999) then some (0) else some (2)) = v3 := ⟨_, rfl⟩
    rw [h3] at h ⊢
    cases v3 with
    | none => simp at h
    | some v =>
      rw [bs] at h ⊢
      have e : v = t := by simpa using h
      subst e
      unfold opI
      rw [bs, th_fl, gI_s ht (by omega), bs, if_neg ht0]
  by_cases h1 : 0 ≤ a ∧ a < 80
  · by_cases h2 : 0 ≤ b ∧ b < 11
    · by_cases h3 : -9999 ≤ c ∧ c ≤ 9999
      · obtain ⟨m, hm⟩ : ∃ m, m = 11 * a.toNat + b.toNat := ⟨_, rfl⟩
        have e5 : odI (oI M 36 3 0) 38 (11 * a + b) = some (M.2 38 m) := by rw [odI_n m rfl (by omega) (by rw [k38.2]; omega), oI_2, if_neg (by omega)]
        have e7 : osI (oI M 36 3 0) 38 (11 * a + b) c = some (oI (oI M 36 3 0) 38 m c) := osI_n m rfl (by omega) (by rw [k38.2]; omega)
        refine ⟨(if M.2 38 m = c then 0 else 1), oI (oI M 36 3 0) 38 m c, ?_, ok_oI (ok_oI hM (by omega)) hc, ko_trans (ko_oI M (a := 36) (by omega) 3 0) (ko_oI _ (a := 38) (by omega) m c), Or.inr (Or.inr ⟨by omega, h3, by rw [oI_2, if_neg (by omega)]; exact th_fl M 0, by rw [← hm], fun i => ?_, fun i => ?_, fun i => ?_, ?_, ?_⟩)⟩
        · unfold f_X8_set
          rw [s_isPoly a ha, bs, if_pos h1, gI_s (by omega) (by omega), bs, if_neg (by omega), s_isPower b hb, bs, if_pos h2, gI_s (by omega) (by omega), bs, if_neg (by omega), gI_s hc (by omega), bs, if_neg (by omega), gI_s hc (by omega), bs, if_pos (by omega), bs]
          unfold opI
          rw [bs, th_fl, gI_s (by omega) (by omega), bs, if_pos rfl, e5, bs, gI_s (hM.2 _ _) hc, bs, e7]
          by_cases z : M.2 38 m = c
          · rw [if_pos z, if_pos z]; rfl
          · rw [if_neg z, if_neg z]; rfl
        · rw [oI_2, ← hm]
          by_cases z : i = m
          · rw [if_pos ⟨rfl, z⟩, if_pos z]
          · rw [if_neg (by omega), if_neg z, oI_2, if_neg (by omega)]
        · rw [oI_2, if_neg (by omega), oI_2, if_neg (by omega)]
        · rw [oI_2, if_neg (by omega), oI_2, if_neg (by omega)]
        · rw [oI_2, if_neg (by omega), oI_2, if_neg (by omega)]
        · rw [oI_2, if_neg (by omega), oI_2, if_neg (by omega)]
      · refine ⟨0, oI M 36 3 2, bad 2 (by omega) (by omega) ?_, ok_oI hM (by omega), ko_oI M (a := 36) (by omega) 3 2, Or.inr (Or.inl ⟨by omega, h3, th_fl M 2, sm8_fl M (by omega) (by omega) 2⟩)⟩
        rw [s_isPoly a ha, bs, if_pos h1, gI_s (by omega) (by omega), bs, if_neg (by omega), s_isPower b hb, bs, if_pos h2, gI_s (by omega) (by omega), bs, if_neg (by omega), gI_s hc (by omega), bs]
        by_cases z : c < -9999
        · rw [if_pos z, bs]
        · rw [if_neg z, gI_s hc (by omega), bs, if_neg (by omega), bs]
    · refine ⟨0, oI M 36 3 1, bad 1 (by omega) (by omega) ?_, ok_oI hM (by omega), ko_oI M (a := 36) (by omega) 3 1, Or.inl ⟨by omega, th_fl M 1, sm8_fl M (by omega) (by omega) 1⟩⟩
      rw [s_isPoly a ha, bs, if_pos h1, gI_s (by omega) (by omega), bs, if_neg (by omega), s_isPower b hb, bs, if_neg h2, gI_s (by omega) (by omega), bs, if_pos rfl, bs]
  · refine ⟨0, oI M 36 3 1, bad 1 (by omega) (by omega) ?_, ok_oI hM (by omega), ko_oI M (a := 36) (by omega) 3 1, Or.inl ⟨by omega, th_fl M 1, sm8_fl M (by omega) (by omega) 1⟩⟩
    rw [s_isPoly a ha, bs, if_neg h1, gI_s (by omega) (by omega), bs, if_pos rfl, bs]
theorem s_at8 {M : MI} (hM : ok M) {a b : Int} (ha : inI a) (hb : inI b) : ((0 ≤ a ∧ a < 80 ∧ 0 ≤ b ∧ b < 11) ∧ f_X8_at a b M = some (M.2 38 (11 * a.toNat + b.toNat), oI M 36 3 0)) ∨ (¬ (0 ≤ a ∧ a < 80 ∧ 0 ≤ b ∧ b < 11) ∧ f_X8_at a b M = some (0, oI M 36 3 1)) := by
  unfold f_X8_at opI
  rw [s_isPoly a ha, bs]
  by_cases h1 : 0 ≤ a ∧ a < 80
  · rw [if_pos h1, gI_s (by omega) (by omega), bs, if_neg (by omega), s_isPower b hb, bs]
    by_cases h2 : 0 ≤ b ∧ b < 11
    · refine Or.inl ⟨by omega, ?_⟩
      rw [if_pos h2, gI_s (by omega) (by omega), bs, if_neg (by omega), bs, bs, th_fl, gI_s (by omega) (by omega), bs, if_pos rfl, odI_n (11 * a.toNat + b.toNat) rfl (by omega) (by rw [k38.2]; omega), bs, bs, oI_2, if_neg (by omega)]
    · refine Or.inr ⟨by omega, ?_⟩
      rw [if_neg h2, gI_s (by omega) (by omega), bs, if_pos rfl, bs, bs, th_fl, gI_s (by omega) (by omega), bs, if_neg (by omega), bs]
  · refine Or.inr ⟨by omega, ?_⟩
    rw [if_neg h1, gI_s (by omega) (by omega), bs, if_pos rfl, bs, bs, th_fl, gI_s (by omega) (by omega), bs, if_neg (by omega), bs]
end MRop1
