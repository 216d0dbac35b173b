/-! the law's cases: class and reference answer alike -/
section MSt1
theorem st_poly {M : MI} (h : SR M) {n : Nat} (hn : 18446744073709551616 ≤ n) : ∃ M', lcG (fL_poly n M) (f_X8_poly n) = some M' ∧ SR M' := by
  obtain ⟨hM, hpb, ⟨g, hg, g7, g8⟩, hr, -⟩ := id h
  have ref := fun (M2 : MI) (ho : ok M2) (hm : mdl M M2) => s_poly8 ho ((hm 36 2 (by omega) (by omega)).trans g8) hg hn
  rcases c_poly7 hM g7 hg hn with ⟨hg80, ht⟩ | ⟨hg80, M1, ha, hok1, hk1, happ⟩
  · obtain ⟨r, M', e, hok', hk', hc⟩ := ref M hM (mdl_refl M)
    rcases hc with ⟨-, h3, hs⟩ | ⟨z, -⟩
    · exact ⟨M', lcG_t (xt_poly_2 ht) (by omega) e h3, SR_sm h (mdl_refl M) (sm7_of rfl) hk' hok' hs⟩
    · omega
  · have hI : inI (g : Int) := by omega
    obtain ⟨r, M', e, hok', hk', hc⟩ := ref (oJ M1 48 0 g) (ok_out hok1 hI) (mdl_out hk1 g)
    rcases hc with ⟨z, -⟩ | ⟨-, h3, hrr, hs⟩
    · omega
    · rw [hrr] at e
      exact ⟨M', lcG_a (xa_poly ha hI) e h3 hI ((ko_48 hk').trans (out_1 _ _)), SR_app h (mdl_out hk1 g) (show app7 M (oJ M1 48 0 g) _ from happ) hk' hok' hs (fun _ _ => by show nz 0 ≤ 9999; decide) (by omega)⟩
theorem SR_set {M M2 M' : MI} (h : SR M) {p j : Nat} {c : Int} (hp : p < 80) (hj : j < 11) (hc : nz c ≤ 9999) (hm : mdl M M2) (h7 : ∀ k i, (k < 36 ∨ 48 < k) → M2.2 k i = if k = 49 + p ∧ i = j then c else M.2 k i) (hk : ko M2 M') (hok : ok M') (h38 : ∀ i, M'.2 38 i = if i = 11 * p + j then c else M2.2 38 i) (h39 : ∀ i, M'.2 39 i = M2.2 39 i) (h40 : ∀ i, M'.2 40 i = M2.2 40 i) (h362 : M'.2 36 2 = M2.2 36 2) (h364 : M'.2 36 4 = M2.2 36 4) : SR M' := by
  obtain ⟨hM, hpb, ⟨g, hg, g7, g8⟩, hr, k, hk10, k7, k8, hf⟩ := id h
  refine ⟨hok, fun k hk9 => ?_, ⟨g, hg, ?_, ?_⟩, fun q i hq hi => ?_, k, hk10, ?_, ?_, fun i hi => ⟨?_, ?_⟩⟩
  · rw [hk.2 37 k (by omega)]; exact SR_pb h hm k hk9
  · rw [hk.2 0 1 (by omega), h7 0 1 (by omega), if_neg (by omega)]; exact g7
  · rw [h362, hm 36 2 (by omega) (by omega)]; exact g8
  · rw [hk.2 (49 + q) i (by omega), h7 (49 + q) i (by omega), h38, hm 38 _ (by omega) (by omega)]
    by_cases z : q = p ∧ i = j
    · rw [if_pos (by omega), if_pos (by omega)]; exact ⟨rfl, hc⟩
    · rw [if_neg (by omega), if_neg (by omega)]; exact hr q i hq hi
  · rw [hk.2 0 4 (by omega), h7 0 4 (by omega), if_neg (by omega)]; exact k7
  · rw [h364, hm 36 4 (by omega) (by omega)]; exact k8
  · rw [hk.2 8 i (by omega), h7 8 i (by omega), if_neg (by omega), h39, hm 39 i (by omega) (by omega)]; exact (hf i hi).1
  · rw [hk.2 9 i (by omega), h7 9 i (by omega), if_neg (by omega), h40, hm 40 i (by omega) (by omega)]; exact (hf i hi).2
theorem st_set {M : MI} (h : SR M) {a b c : Int} (ha : inI a) (hb : inI b) (hc : inI c) : ∃ M', lcB (fL_set a b c M) (f_X8_set a b c) = some M' ∧ SR M' := by
  obtain ⟨hM, hpb, -, hr, -⟩ := id h
  rcases c_set7 hM ha hb hc with ⟨hx, ht⟩ | ⟨hx, hv, ht⟩ | ⟨hx, hv, ht⟩
  · obtain ⟨r, M', e, hok', hk', hd⟩ := s_set8 hM ha hb hc
    rcases hd with ⟨-, h3, hs⟩ | ⟨hy, -⟩ | ⟨hy, -⟩
    · exact ⟨M', lcB_t (xt_set_1 ht) (by omega) e h3, SR_sm h (mdl_refl M) (sm7_of rfl) hk' hok' hs⟩
    · exact absurd hy hx
    · exact absurd hy hx
  · obtain ⟨r, M', e, hok', hk', hd⟩ := s_set8 hM ha hb hc
    rcases hd with ⟨hy, -⟩ | ⟨-, -, h3, hs⟩ | ⟨-, hy, -⟩
    · exact absurd hx hy
    · exact ⟨M', lcB_t (xt_set_3 ht) (by omega) e h3, SR_sm h (mdl_refl M) (sm7_of rfl) hk' hok' hs⟩
    · exact absurd hy hv
  · obtain ⟨rr, hrr⟩ : ∃ rr : Int, rr = if M.2 (49 + a.toNat) b.toNat = c then 0 else 1 := ⟨_, rfl⟩
    rw [← hrr] at ht
    have h01 : rr = 0 ∨ rr = 1 := by rw [hrr]; split <;> omega
    have hok1 : ok (oI M (49 + a.toNat) b.toNat c) := ok_oI hM hc
    have hk1 : ko7 M (oI M (49 + a.toNat) b.toNat c) := fun k i x y => ⟨rfl, by rw [oI_2, if_neg (by omega)]⟩
    obtain ⟨r, M', e, hok', hk', hd⟩ := s_set8 (M := oJ (oI M (49 + a.toNat) b.toNat c) 48 0 rr) (ok_out hok1 (by omega)) ha hb hc
    rcases hd with ⟨hy, -⟩ | ⟨-, hy, -⟩ | ⟨-, -, h3, hr1, h38, h39, h40, h362, h364⟩
    · exact absurd hx hy
    · exact absurd hv hy
    · have hm := mdl_out hk1 rr
      have er : r = rr := by rw [hr1, hm 38 _ (by omega) (by omega), hrr, ← (hr a.toNat b.toNat (by omega) (by omega)).1]
      rw [er] at e
      refine ⟨M', lcB_a (xa_set ht h01) e h3 h01 ((ko_48 hk').trans (out_1 _ _)), SR_set h (p := a.toNat) (j := b.toNat) (c := c) (by omega) (by omega) (by rw [nz_le]; omega) hm (fun k i _ => ?_) hk' hok' h38 h39 h40 h362 h364⟩
      show (oI M (49 + a.toNat) b.toNat c).2 k i = _
      rw [oI_2]
theorem st_at {M : MI} (h : SR M) {a b : Int} (ha : inI a) (hb : inI b) : ∃ M', lcG (fL_at a b M) (f_X8_at a b) = some M' ∧ SR M' := by
  obtain ⟨hM, hpb, -, hr, -⟩ := id h
  rcases c_at7 (M := M) ha hb with ⟨hx, ht⟩ | ⟨hx, ht⟩
  · rcases s_at8 hM ha hb with ⟨hy, -⟩ | ⟨-, e⟩
    · exact absurd hy hx
    · exact ⟨_, lcG_t (xt_at_1 ht) (by omega) e (th_fl M 1), SR_sm h (mdl_refl M) (sm7_of rfl) (ko_oI M (a := 36) (by omega) 3 1) (ok_oI hM (by omega)) (sm8_fl M (i := 3) (by omega) (by omega) 1)⟩
  · have hI := hM.2 (49 + a.toNat) b.toNat
    obtain ⟨v, hv⟩ : ∃ v, v = M.2 (49 + a.toNat) b.toNat := ⟨_, rfl⟩
    rw [← hv] at ht hI
    have hok2 := ok_out hM hI
    rcases s_at8 (M := oJ M 48 0 v) hok2 ha hb with ⟨-, e⟩ | ⟨hy, -⟩
    · have e2 : (oJ M 48 0 v).2 38 (11 * a.toNat + b.toNat) = v := by
        rw [hv]; exact (hr a.toNat b.toNat (by omega) (by omega)).1.symm
      rw [e2] at e
      exact ⟨_, lcG_a (xa_at ht hI) e (th_fl _ 0) hI (by show (oJ M 48 0 v).1 48 0 = v; exact out_1 _ _), SR_sm h (mdl_out (ko7_refl M) v) (sm7_of rfl) (ko_oI _ (a := 36) (by omega) 3 0) (ok_oI hok2 (by omega)) (sm8_fl _ (i := 3) (by omega) (by omega) 0)⟩
    · exact absurd hx hy
theorem st_factor {M : MI} (h : SR M) {a : Int} (ha : inI a) : ∃ M', lcG (fL_factor a M) (f_X8_factor a) = some M' ∧ SR M' := by
  obtain ⟨hM, hpb, -, hr, k, hk10, k7, k8, hf⟩ := id h
  rcases c_factor7 hM (by omega) ha with ⟨hx, ht⟩ | ⟨hx, ht⟩
  · rcases s_factor hM (by omega) ha with ⟨hy1, hy2, -⟩ | ⟨-, e⟩
    · omega
    · exact ⟨_, lcG_t (xt_factor_1 ht) (by omega) e (th_fl M 1), SR_sm h (mdl_refl M) (sm7_of rfl) (ko_oI M (a := 36) (by omega) 3 1) (ok_oI hM (by omega)) (sm8_fl M (i := 3) (by omega) (by omega) 1)⟩
  · have hI := hM.2 8 a.toNat
    obtain ⟨v, hv⟩ : ∃ v, v = M.2 8 a.toNat := ⟨_, rfl⟩
    rw [← hv] at ht hI
    have hok2 := ok_out hM hI
    have k82 : (oJ M 48 0 v).2 36 4 = k := k8
    rcases s_factor (M := oJ M 48 0 v) hok2 (by omega) ha with ⟨-, -, e⟩ | ⟨hy, -⟩
    · have e2 : (oJ M 48 0 v).2 39 a.toNat = v := by
        rw [hv]; exact (hf a.toNat (by omega)).1.symm
      rw [e2] at e
      exact ⟨_, lcG_a (xa_factor ht hI) e (th_fl _ 0) hI (by show (oJ M 48 0 v).1 48 0 = v; exact out_1 _ _), SR_sm h (mdl_out (ko7_refl M) v) (sm7_of rfl) (ko_oI _ (a := 36) (by omega) 3 0) (ok_oI hok2 (by omega)) (sm8_fl _ (i := 3) (by omega) (by omega) 0)⟩
    · omega
theorem st_multiplicity {M : MI} (h : SR M) {a : Int} (ha : inI a) : ∃ M', lcG (fL_multiplicity a M) (f_X8_multiplicity a) = some M' ∧ SR M' := by
  obtain ⟨hM, hpb, -, hr, k, hk10, k7, k8, hf⟩ := id h
  rcases c_multiplicity7 hM (by omega) ha with ⟨hx, ht⟩ | ⟨hx, ht⟩
  · rcases s_multiplicity hM (by omega) ha with ⟨hy1, hy2, -⟩ | ⟨-, e⟩
    · omega
    · exact ⟨_, lcG_t (xt_multiplicity_1 ht) (by omega) e (th_fl M 1), SR_sm h (mdl_refl M) (sm7_of rfl) (ko_oI M (a := 36) (by omega) 3 1) (ok_oI hM (by omega)) (sm8_fl M (i := 3) (by omega) (by omega) 1)⟩
  · have hI := hM.2 9 a.toNat
    obtain ⟨v, hv⟩ : ∃ v, v = M.2 9 a.toNat := ⟨_, rfl⟩
    rw [← hv] at ht hI
    have hok2 := ok_out hM hI
    have k82 : (oJ M 48 0 v).2 36 4 = k := k8
    rcases s_multiplicity (M := oJ M 48 0 v) hok2 (by omega) ha with ⟨-, -, e⟩ | ⟨hy, -⟩
    · have e2 : (oJ M 48 0 v).2 40 a.toNat = v := by
        rw [hv]; exact (hf a.toNat (by omega)).2.symm
      rw [e2] at e
      exact ⟨_, lcG_a (xa_multiplicity ht hI) e (th_fl _ 0) hI (by show (oJ M 48 0 v).1 48 0 = v; exact out_1 _ _), SR_sm h (mdl_out (ko7_refl M) v) (sm7_of rfl) (ko_oI _ (a := 36) (by omega) 3 0) (ok_oI hok2 (by omega)) (sm8_fl _ (i := 3) (by omega) (by omega) 0)⟩
    · omega
theorem hv_congr {c d : Nat → Int} (x : Int) (h : ∀ j, j < 11 → c j = d j) : ∀ t, hv c x t = hv d x t
  | 0 => rfl
  | t + 1 => by
    show hv c x t * x + c (10 - t) = hv d x t * x + d (10 - t)
    rw [hv_congr x h t, h (10 - t) (by omega)]
theorem st_value {M : MI} (h : SR M) {a b c : Int} (ha : inI a) (hb : inI b) (hc : inI c) {n : Nat} (hn : 18446744073709551616 ≤ n) : ∃ M', lcG (fL_value n a b c M) (f_X8_value n a b c) = some M' ∧ SR M' := by
  obtain ⟨hM, hpb, -, hr, -⟩ := id h
  have ref := fun (M2 : MI) (ho : ok M2) (hm : mdl M M2) => s_value8 ho (SR_bd8 h hm) ha hb hc hn
  rcases c_value7 hM (SR_bd7 h) ha hb hc hn with ⟨hx, ht⟩ | ⟨hx, hq, ht⟩ | ⟨hx, hq, ht⟩
  · obtain ⟨r, t, e, hti, hd⟩ := ref M hM (mdl_refl M)
    rcases hd with ⟨-, h3⟩ | ⟨hy, -⟩ | ⟨hy, -⟩
    · rw [h3] at e
      exact ⟨_, lcG_t (xt_value_1 ht) (by omega) e (th_fl M 1), SR_sm h (mdl_refl M) (sm7_of rfl) (ko_oI M (a := 36) (by omega) 3 1) (ok_oI hM (by omega)) (sm8_fl M (i := 3) (by omega) (by omega) 1)⟩
    · exact absurd hy hx
    · exact absurd hy hx
  · obtain ⟨r, t, e, hti, hd⟩ := ref M hM (mdl_refl M)
    rcases hd with ⟨hy, -⟩ | ⟨-, -, h3⟩ | ⟨-, hy, -⟩
    · exact absurd hx hy
    · rw [h3] at e
      exact ⟨_, lcG_t (xt_value_3 ht) (by omega) e (th_fl M 2), SR_sm h (mdl_refl M) (sm7_of rfl) (ko_oI M (a := 36) (by omega) 3 2) (ok_oI hM (by omega)) (sm8_fl M (i := 3) (by omega) (by omega) 2)⟩
    · exact absurd hy hq
  · obtain ⟨v, hve⟩ : ∃ v, v = hv (fun j => M.2 (49 + a.toNat) j) b 11 % c := ⟨_, rfl⟩
    have p1 := Int.emod_nonneg (hv (fun j => M.2 (49 + a.toNat) j) b 11) (show c ≠ 0 by omega)
    have p2 := Int.emod_lt_of_pos (hv (fun j => M.2 (49 + a.toNat) j) b 11) (show 0 < c by omega)
    rw [← hve] at ht p1 p2
    have hI : inI v := by omega
    have hok2 := ok_out hM hI
    obtain ⟨r, t, e, hti, hd⟩ := ref (oJ M 48 0 v) hok2 (mdl_out (ko7_refl M) v)
    rcases hd with ⟨hy, -⟩ | ⟨-, hy, -⟩ | ⟨-, -, h3, hrr⟩
    · exact absurd hx hy
    · exact absurd hq hy
    · have e2 : r = v := by
        rw [hrr, hve]
        exact congrArg (fun z => z % c) (hv_congr b (fun j hj => (hr a.toNat j (by omega) hj).1.symm) 11)
      rw [h3, e2] at e
      exact ⟨_, lcG_a (xa_value ht hI) e (th_fl _ 0) hI (by show (oJ M 48 0 v).1 48 0 = v; exact out_1 _ _), SR_sm h (mdl_out (ko7_refl M) v) (sm7_of rfl) (ko_oI _ (a := 36) (by omega) 3 0) (ok_oI hok2 (by omega)) (sm8_fl _ (i := 3) (by omega) (by omega) 0)⟩
theorem st_count {M : MI} (h : SR M) (n : Nat) (x1 x2 x3 : Int) : ∃ M', lc_15 n x1 x2 x3 M = some M' ∧ SR M' := by
  obtain ⟨hM, hpb, ⟨g, hg, g7, g8⟩, -⟩ := id h
  refine ⟨oI M 36 3 0, ?_, SR_sm h (mdl_refl M) (sm7_of rfl) (ko_oI M (a := 36) (by omega) 3 0) (ok_oI hM (by omega)) (sm8_fl M (i := 3) (by omega) (by omega) 0)⟩
  unfold lc_15 f_X7_count
  rw [bs, s_count8, bs]
  dsimp only
  rw [g7, g8, gI_s (by omega) (by omega), bs, if_pos rfl]
end MSt1
