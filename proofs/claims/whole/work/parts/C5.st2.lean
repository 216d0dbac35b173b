/-! the law's cases: class and reference answer alike, by polynomials -/
section MSt2
theorem st_times {S : Type} [Lean.Grind.CommRing S] {co : S → Nat → Int} (P : isPol co) {M : MI} (h : SR M) {a b : Int} (ha : inI a) (hb : inI b) {n : Nat} (hn : 18446744073709551616 ≤ n) : ∃ M', lcG (fL_times n a b M) (f_X8_times n a b) = some M' ∧ SR M' := by
  obtain ⟨hM, hpb, ⟨g, hg, g7, g8⟩, hr, -⟩ := id h
  obtain ⟨M1, hok1, hk1, hc⟩ := c_times7 P hM (SR_bd7 h) g7 hg ha hb hn
  have ref := fun (M2 : MI) (ho : ok M2) (hm : mdl M M2) => s_times8 P ho (SR_bd8 h hm) ((hm 36 2 (by omega) (by omega)).trans g8) hg ha hb hn
  have hm1 := mdl_ko7 hk1
  have hI : inI (g : Int) := by omega
  rcases hc with ⟨hx, ht, hs⟩ | ⟨hx, hg8, ht, hs⟩ | ⟨hx, hg8, ⟨hns, ht, hs⟩ | ⟨hsm, ht, happ⟩⟩
  · obtain ⟨r, M', e, hok', hk', hd⟩ := ref M1 hok1 hm1
    rcases hd with ⟨-, h3, h8⟩ | ⟨hy, -⟩ | ⟨hy, -⟩
    · exact ⟨M', lcG_t (xt_times_1 ht) (by omega) e h3, SR_sm h hm1 hs hk' hok' h8⟩
    · exact absurd hy hx
    · exact absurd hy hx
  · obtain ⟨r, M', e, hok', hk', hd⟩ := ref M1 hok1 hm1
    rcases hd with ⟨hy, -⟩ | ⟨-, -, h3, h8⟩ | ⟨-, hy, -⟩
    · exact absurd hx hy
    · exact ⟨M', lcG_t (xt_times_2 ht) (by omega) e h3, SR_sm h hm1 hs hk' hok' h8⟩
    · omega
  · obtain ⟨r, M', e, hok', hk', hd⟩ := ref M1 hok1 hm1
    rw [SR_po P h hm1 (p := b.toNat) (by omega), SR_po P h hm1 (p := a.toNat) (by omega)] at hd
    rcases hd with ⟨hy, -⟩ | ⟨-, hy, -⟩ | ⟨-, -, ⟨-, h3, h8⟩ | ⟨hy, -⟩⟩
    · exact absurd hx hy
    · omega
    · exact ⟨M', lcG_t (xt_times_3 ht) (by omega) e h3, SR_sm h hm1 hs hk' hok' h8⟩
    · exact absurd hy hns
  · have hm2 := mdl_out hk1 g
    obtain ⟨r, M', e, hok', hk', hd⟩ := ref (oJ M1 48 0 g) (ok_out hok1 hI) hm2
    rw [SR_po P h hm2 (p := b.toNat) (by omega), SR_po P h hm2 (p := a.toNat) (by omega)] at hd
    rcases hd with ⟨hy, -⟩ | ⟨-, hy, -⟩ | ⟨-, -, ⟨hy, -⟩ | ⟨-, h3, hrr, h8⟩⟩
    · exact absurd hx hy
    · omega
    · exact absurd hsm hy
    · rw [hrr] at e
      exact ⟨M', lcG_a (xa_times ht hI) e h3 hI ((ko_48 hk').trans (out_1 _ _)), SR_app h hm2 (show app7 M (oJ M1 48 0 g) _ from happ) hk' hok' h8 (fun j _ => hsm.2 j) (by omega)⟩
theorem st_over {S : Type} [Lean.Grind.CommRing S] {co : S → Nat → Int} (P : isPol co) {M : MI} (h : SR M) {a b : Int} (ha : inI a) (hb : inI b) {n : Nat} (hn : 18446744073709551616 ≤ n) : ∃ M', lcG (fL_over n a b M) (f_X8_over n a b) = some M' ∧ SR M' := by
  obtain ⟨hM, hpb, ⟨g, hg, g7, g8⟩, hr, -⟩ := id h
  obtain ⟨M1, hok1, hk1, hc⟩ := c_over7 P hM (SR_bd7 h) g7 hg ha hb hn
  have ref := fun (M2 : MI) (ho : ok M2) (hm : mdl M M2) => s_over8 P ho (SR_bd8 h hm) ((hm 36 2 (by omega) (by omega)).trans g8) hg ha hb hn
  have hm1 := mdl_ko7 hk1
  have hI : inI (g : Int) := by omega
  rcases hc with ⟨hx, ht, hs⟩ | ⟨hx, hg8, ht, hs⟩ | ⟨hx, hg8, h0, ht, hs⟩ | ⟨hx, hg8, h0, ⟨q, hq, hsm, ht, happ⟩ | ⟨hns, ht, hs⟩⟩
  · obtain ⟨r, M', e, hok', hk', hd⟩ := ref M1 hok1 hm1
    rcases hd with ⟨-, h3, h8⟩ | ⟨hy, -⟩ | ⟨hy, -⟩ | ⟨hy, -⟩
    · exact ⟨M', lcG_t (xt_over_1 ht) (by omega) e h3, SR_sm h hm1 hs hk' hok' h8⟩
    · exact absurd hy hx
    · exact absurd hy hx
    · exact absurd hy hx
  · obtain ⟨r, M', e, hok', hk', hd⟩ := ref M1 hok1 hm1
    rcases hd with ⟨hy, -⟩ | ⟨-, -, h3, h8⟩ | ⟨-, hy, -⟩ | ⟨-, hy, -⟩
    · exact absurd hx hy
    · exact ⟨M', lcG_t (xt_over_2 ht) (by omega) e h3, SR_sm h hm1 hs hk' hok' h8⟩
    · omega
    · omega
  · obtain ⟨r, M', e, hok', hk', hd⟩ := ref M1 hok1 hm1
    rw [SR_po P h hm1 (p := b.toNat) (by omega), SR_po P h hm1 (p := a.toNat) (by omega)] at hd
    rcases hd with ⟨hy, -⟩ | ⟨-, hy, -⟩ | ⟨-, -, -, h3, h8⟩ | ⟨-, -, hy, -⟩
    · exact absurd hx hy
    · omega
    · exact ⟨M', lcG_t (xt_over_4 ht) (by omega) e h3, SR_sm h hm1 hs hk' hok' h8⟩
    · exact absurd h0 hy
  · have hm2 := mdl_out hk1 g
    obtain ⟨r, M', e, hok', hk', hd⟩ := ref (oJ M1 48 0 g) (ok_out hok1 hI) hm2
    rw [SR_po P h hm2 (p := b.toNat) (by omega), SR_po P h hm2 (p := a.toNat) (by omega)] at hd
    rcases hd with ⟨hy, -⟩ | ⟨-, hy, -⟩ | ⟨-, -, hy, -⟩ | ⟨-, -, -, h3, ⟨q', hq', -, hrr, h8⟩ | ⟨hy, -⟩⟩
    · exact absurd hx hy
    · omega
    · exact absurd hy h0
    · have eq : q' = q := z_cancel P h0 (by rw [← hq', ← hq])
      rw [eq] at h8
      rw [hrr] at e
      exact ⟨M', lcG_a (xa_over ht hI) e h3 hI ((ko_48 hk').trans (out_1 _ _)), SR_app h hm2 (show app7 M (oJ M1 48 0 g) _ from happ) hk' hok' h8 (fun j _ => hsm.2 j) (by omega)⟩
    · exact absurd ⟨q, hq, hsm⟩ hy
  · have hm2 := mdl_out hk1 (-1)
    obtain ⟨r, M', e, hok', hk', hd⟩ := ref (oJ M1 48 0 (-1)) (ok_out hok1 (by omega)) hm2
    rw [SR_po P h hm2 (p := b.toNat) (by omega), SR_po P h hm2 (p := a.toNat) (by omega)] at hd
    rcases hd with ⟨hy, -⟩ | ⟨-, hy, -⟩ | ⟨-, -, hy, -⟩ | ⟨-, -, -, h3, ⟨q', hq', hsm', -⟩ | ⟨-, hrr, h8⟩⟩
    · exact absurd hx hy
    · omega
    · exact absurd hy h0
    · exact absurd ⟨q', hq', hsm'⟩ hns
    · rw [hrr] at e
      exact ⟨M', lcG_a (xa_over ht (by omega)) e h3 (by omega) ((ko_48 hk').trans (out_1 _ _)), SR_sm h hm2 (show sm7 M (oJ M1 48 0 (-1)) from hs) hk' hok' h8⟩
theorem isG_00 {S : Type} [Lean.Grind.CommRing S] {co : S → Nat → Int} (P : isPol co) {d : S} (h : isG P 0 0 d) : False := by
  obtain ⟨h1, -, -, -, c, u, v, hc, e⟩ := h
  have e0 : mo P c 0 * d = 0 := by rw [e]; grind
  rcases z_dom P e0 with z | z
  · have := (mo_co P c 0 0).symm
    rw [z, p_zero P, if_pos rfl] at this
    exact hc this
  · exact prim_ne P h1 z
theorem gd_uq {S : Type} [Lean.Grind.CommRing S] {co : S → Nat → Int} (P : isPol co) {A B d d' : S} (h : (A = 0 ∧ B = 0 ∧ d = 0) ∨ isG P A B d) (h' : (A = 0 ∧ B = 0 ∧ d' = 0) ∨ isG P A B d') : d' = d := by
  rcases h with ⟨z1, z2, z3⟩ | h
  · rcases h' with ⟨-, -, y3⟩ | h'
    · rw [z3, y3]
    · rw [z1, z2] at h'
      exact (isG_00 P h').elim
  · rcases h' with ⟨z1, z2, -⟩ | h'
    · rw [z1, z2] at h
      exact (isG_00 P h).elim
    · exact isG_uq P h' h
theorem st_gcd {S : Type} [Lean.Grind.CommRing S] {co : S → Nat → Int} (P : isPol co) {M : MI} (h : SR M) {a b : Int} (ha : inI a) (hb : inI b) {n : Nat} (hn : 18446744073709551616 ≤ n) : ∃ M', lcG (fL_gcd n a b M) (f_X8_gcd n a b) = some M' ∧ SR M' := by
  obtain ⟨hM, hpb, ⟨g, hg, g7, g8⟩, hr, -⟩ := id h
  obtain ⟨M1, hok1, hk1, hc⟩ := c_gcd7 P hM (SR_bd7 h) g7 hg ha hb hn
  have ref := fun (M2 : MI) (ho : ok M2) (hm : mdl M M2) => s_gcd8 P ho (SR_pb h hm) (SR_bd8 h hm) ((hm 36 2 (by omega) (by omega)).trans g8) hg ha hb hn
  have hm1 := mdl_ko7 hk1
  have hI : inI (g : Int) := by omega
  rcases hc with ⟨hx, ht, hs⟩ | ⟨hx, hg8, ht, hs⟩ | ⟨hx, hg8, d, hdd, ⟨hsm, ht, happ⟩ | ⟨hns, ht, hs⟩⟩
  · obtain ⟨r, M', e, hok', hk', hd⟩ := ref M1 hok1 hm1
    rcases hd with ⟨-, h3, h8⟩ | ⟨hy, -⟩ | ⟨hy, -⟩
    · exact ⟨M', lcG_t (xt_gcd_1 ht) (by omega) e h3, SR_sm h hm1 hs hk' hok' h8⟩
    · exact absurd hy hx
    · exact absurd hy hx
  · obtain ⟨r, M', e, hok', hk', hd⟩ := ref M1 hok1 hm1
    rcases hd with ⟨hy, -⟩ | ⟨-, -, h3, h8⟩ | ⟨-, hy, -⟩
    · exact absurd hx hy
    · exact ⟨M', lcG_t (xt_gcd_2 ht) (by omega) e h3, SR_sm h hm1 hs hk' hok' h8⟩
    · omega
  · have hm2 := mdl_out hk1 g
    obtain ⟨r, M', e, hok', hk', hd⟩ := ref (oJ M1 48 0 g) (ok_out hok1 hI) hm2
    rw [SR_po P h hm2 (p := b.toNat) (by omega), SR_po P h hm2 (p := a.toNat) (by omega)] at hd
    rcases hd with ⟨hy, -⟩ | ⟨-, hy, -⟩ | ⟨-, -, h3, d', hd', hd⟩
    · exact absurd hx hy
    · omega
    · rw [gd_uq P hdd hd'] at hd
      rcases hd with ⟨-, hrr, h8⟩ | ⟨hy, -⟩
      · rw [hrr] at e
        exact ⟨M', lcG_a (xa_gcd ht hI) e h3 hI ((ko_48 hk').trans (out_1 _ _)), SR_app h hm2 (show app7 M (oJ M1 48 0 g) _ from happ) hk' hok' h8 (fun j _ => hsm.2 j) (by omega)⟩
      · exact absurd hsm hy
  · have hm2 := mdl_out hk1 (-1)
    obtain ⟨r, M', e, hok', hk', hd⟩ := ref (oJ M1 48 0 (-1)) (ok_out hok1 (by omega)) hm2
    rw [SR_po P h hm2 (p := b.toNat) (by omega), SR_po P h hm2 (p := a.toNat) (by omega)] at hd
    rcases hd with ⟨hy, -⟩ | ⟨-, hy, -⟩ | ⟨-, -, h3, d', hd', hd⟩
    · exact absurd hx hy
    · omega
    · rw [gd_uq P hdd hd'] at hd
      rcases hd with ⟨hy, -⟩ | ⟨-, hrr, h8⟩
      · exact absurd hy hns
      · rw [hrr] at e
        exact ⟨M', lcG_a (xa_gcd ht (by omega)) e h3 (by omega) ((ko_48 hk').trans (out_1 _ _)), SR_sm h hm2 (show sm7 M (oJ M1 48 0 (-1)) from hs) hk' hok' h8⟩
theorem cont_I {S : Type} [Lean.Grind.CommRing S] {co : S → Nat → Int} (P : isPol co) {f : S} (hB : ∀ i, nz (co f i) ≤ 9999) : inI (cont co f) := by
  unfold cont
  split
  · omega
  · have h2 : (sc co f).natAbs = cg (co f) (nu co f) := by unfold sc; split <;> omega
    have h3 : cg (co f) (nu co f) ≤ 9999 := cg_le (fun i _ => by have := hB i; unfold nz at this; omega)
    omega
theorem st_content {S : Type} [Lean.Grind.CommRing S] {co : S → Nat → Int} (P : isPol co) {M : MI} (h : SR M) {a : Int} (ha : inI a) {n : Nat} (hn : 18446744073709551616 ≤ n) : ∃ M', lcG (fL_content n a M) (f_X8_content n a) = some M' ∧ SR M' := by
  obtain ⟨hM, hpb, -, hr, -⟩ := id h
  obtain ⟨M1, hok1, hk1, hs, hc⟩ := c_content7 P hM (SR_bd7 h) ha hn
  have ref := fun (M2 : MI) (ho : ok M2) (hm : mdl M M2) => s_content8 P ho (SR_bd8 h hm) ha hn
  have hm1 := mdl_ko7 hk1
  rcases hc with ⟨hx, ht⟩ | ⟨hx, ht⟩
  · obtain ⟨r, M', e, hok', hk', h8, hd⟩ := ref M1 hok1 hm1
    rcases hd with ⟨-, h3⟩ | ⟨hy, -⟩
    · exact ⟨M', lcG_t (xt_content_1 ht) (by omega) e h3, SR_sm h hm1 hs hk' hok' h8⟩
    · exact absurd hy hx
  · have hI := cont_I P (po7_X P (SR_bd7 h) (p := a.toNat) (by omega))
    obtain ⟨v, hv⟩ : ∃ v, v = cont co (po7 P M a.toNat) := ⟨_, rfl⟩
    rw [← hv] at ht hI
    have hm2 := mdl_out hk1 v
    obtain ⟨r, M', e, hok', hk', h8, hd⟩ := ref (oJ M1 48 0 v) (ok_out hok1 hI) hm2
    rcases hd with ⟨hy, -⟩ | ⟨-, h3, hrr⟩
    · exact absurd hx hy
    · rw [SR_po P h hm2 (p := a.toNat) (by omega), ← hv] at hrr
      rw [hrr] at e
      exact ⟨M', lcG_a (xa_content ht hI) e h3 hI ((ko_48 hk').trans (out_1 _ _)), SR_sm h hm2 (show sm7 M (oJ M1 48 0 v) from hs) hk' hok' h8⟩
theorem rt_bd {S : Type} [Lean.Grind.CommRing S] {co : S → Nat → Int} (P : isPol co) {F : S} (hF : F ≠ 0) (hX : ∀ i, nz (co F i) ≤ 9999) {x : Int × Int} (h : rt P F x) : nz x.1 ≤ 9999 ∧ nz x.2 ≤ 9999 := by
  have hle : ∀ {d z : Int}, d ∣ z → z ≠ 0 → nz z ≤ 9999 → nz d ≤ 9999 := fun {d z} h1 h2 h3 => by
    have := Nat.le_of_dvd (by omega) (Int.natAbs_dvd_natAbs.mpr h1)
    unfold nz at *
    omega
  have hN : nu co F ≠ 0 := fun z => hF ((nu_zero P).mp z)
  refine ⟨?_, hle (rt_head P hF h) (nu_top P F hN) (hX _)⟩
  by_cases h0 : x.1 = 0
  · rw [h0]; decide
  · obtain ⟨low, hlow2, hlow⟩ := least (p := fun i => co F i ≠ 0) ⟨nu co F - 1, nu_top P F hN⟩
    exact hle (rt_tail P hF (fun i hi => Classical.byContradiction fun z => hlow i hi z) hlow2 h h0) hlow2 (hX _)
theorem rk_uq {S : Type} [Lean.Grind.CommRing S] {co : S → Nat → Int} (P : isPol co) {F : S} {k k' : Nat} {s s' : Nat → Int × Int} (h : F = 0 ∧ k = 0 ∨ F ≠ 0 ∧ RSet P F k s) (h' : F = 0 ∧ k' = 0 ∨ F ≠ 0 ∧ RSet P F k' s') : k = k' ∧ ∀ i, i < k → s i = s' i := by
  rcases h with ⟨z, y⟩ | ⟨z, y⟩
  · rcases h' with ⟨-, y'⟩ | ⟨z', -⟩
    · exact ⟨by omega, fun i hi => absurd hi (by omega)⟩
    · exact absurd z z'
  · rcases h' with ⟨z', -⟩ | ⟨-, y'⟩
    · exact absurd z' z
    · exact RSet_uq P y y'
theorem st_root {S : Type} [Lean.Grind.CommRing S] {co : S → Nat → Int} (P : isPol co) {M : MI} (h : SR M) {a b c : Int} (ha : inI a) (hb : inI b) (hc : inI c) {n : Nat} (hn : 18446744073709551616 ≤ n) : ∃ M', lcG (fL_root n a b c M) (f_X8_root n a b c) = some M' ∧ SR M' := by
  obtain ⟨hM, hpb, -, hr, -⟩ := id h
  obtain ⟨M1, hok1, hk1, hs, hcc⟩ := c_root7 P hM (SR_bd7 h) ha hb hc hn
  have ref := fun (M2 : MI) (ho : ok M2) (hm : mdl M M2) => s_root8 P ho (SR_bd8 h hm) ha hb hc hn
  have hm1 := mdl_ko7 hk1
  rcases hcc with ⟨hx, ht⟩ | ⟨hx, k, s, hks, ⟨hz, ht⟩ | ⟨hz, ht⟩⟩
  · obtain ⟨r, M', e, hok', hk', h8, hd⟩ := ref M1 hok1 hm1
    rcases hd with ⟨-, h3⟩ | ⟨hy, -⟩
    · exact ⟨M', lcG_t (xt_root_1 ht) (by omega) e h3, SR_sm h hm1 hs hk' hok' h8⟩
    · exact absurd hy hx
  · obtain ⟨r, M', e, hok', hk', h8, hd⟩ := ref M1 hok1 hm1
    rcases hd with ⟨hy, -⟩ | ⟨-, k', s', hks', hd⟩
    · exact absurd hx hy
    · rw [SR_po P h hm1 (p := a.toNat) (by omega)] at hks'
      obtain ⟨ek, es⟩ := rk_uq P hks hks'
      rcases hd with ⟨-, h3⟩ | ⟨hy, -⟩
      · exact ⟨M', lcG_t (xt_root_3 ht) (by omega) e h3, SR_sm h hm1 hs hk' hok' h8⟩
      · rw [← ek] at hy
        exact absurd hy hz
  · obtain ⟨v, hv⟩ : ∃ v, v = if c = 0 then (s b.toNat).1 else (s b.toNat).2 := ⟨_, rfl⟩
    rw [← hv] at ht
    have hI : inI v := by
      rcases hks with ⟨-, y⟩ | ⟨z, y⟩
      · omega
      · obtain ⟨q1, q2⟩ := rt_bd P z (po7_X P (SR_bd7 h) (p := a.toNat) (by omega)) (y.1 b.toNat (by omega))
        rw [nz_le] at q1 q2
        rw [hv]
        split <;> omega
    have hm2 := mdl_out hk1 v
    obtain ⟨r, M', e, hok', hk', h8, hd⟩ := ref (oJ M1 48 0 v) (ok_out hok1 hI) hm2
    rcases hd with ⟨hy, -⟩ | ⟨-, k', s', hks', hd⟩
    · exact absurd hx hy
    · rw [SR_po P h hm2 (p := a.toNat) (by omega)] at hks'
      obtain ⟨ek, es⟩ := rk_uq P hks hks'
      rcases hd with ⟨hy, -⟩ | ⟨-, h3, hrr⟩
      · rw [← ek] at hy
        exact absurd hz hy
      · rw [← es b.toNat (by omega), ← hv] at hrr
        rw [hrr] at e
        exact ⟨M', lcG_a (xa_root ht hI) e h3 hI ((ko_48 hk').trans (out_1 _ _)), SR_sm h hm2 (show sm7 M (oJ M1 48 0 v) from hs) hk' hok' h8⟩
theorem st_roots {S : Type} [Lean.Grind.CommRing S] {co : S → Nat → Int} (P : isPol co) {M : MI} (h : SR M) {a : Int} (ha : inI a) {n : Nat} (hn : 18446744073709551616 ≤ n) : ∃ M', lcG (fL_roots n a M) (f_X8_roots n a) = some M' ∧ SR M' := by
  obtain ⟨hM, hpb, -, hr, -⟩ := id h
  obtain ⟨M1, hok1, hk1, hs, hcc⟩ := c_roots7 P hM (SR_bd7 h) ha hn
  have ref := fun (M2 : MI) (ho : ok M2) (hm : mdl M M2) => s_roots8 P ho (SR_bd8 h hm) ha hn
  have hm1 := mdl_ko7 hk1
  rcases hcc with ⟨hx, ht⟩ | ⟨hx, ⟨h0, ht⟩ | ⟨h0, k, s, hRS, ht⟩⟩
  · obtain ⟨r, M', e, hok', hk', h8, hd⟩ := ref M1 hok1 hm1
    rcases hd with ⟨-, h3⟩ | ⟨hy, -⟩
    · exact ⟨M', lcG_t (xt_roots_1 ht) (by omega) e h3, SR_sm h hm1 hs hk' hok' h8⟩
    · exact absurd hy hx
  · have hm2 := mdl_out hk1 (-1)
    obtain ⟨r, M', e, hok', hk', h8, hd⟩ := ref (oJ M1 48 0 (-1)) (ok_out hok1 (by omega)) hm2
    rw [SR_po P h hm2 (p := a.toNat) (by omega)] at hd
    rcases hd with ⟨hy, -⟩ | ⟨-, h3, ⟨-, hrr⟩ | ⟨hy, -⟩⟩
    · exact absurd hx hy
    · rw [hrr] at e
      exact ⟨M', lcG_a (xa_roots ht (by omega)) e h3 (by omega) ((ko_48 hk').trans (out_1 _ _)), SR_sm h hm2 (show sm7 M (oJ M1 48 0 (-1)) from hs) hk' hok' h8⟩
    · exact absurd h0 hy
  · have hk11 : k + 1 ≤ nu co (po7 P M a.toNat) := rt_cnt P h0 hRS.1 (fun i j hij hj e => by have := hRS.2.2 i j hij hj; rw [e] at this; exact rlt_irr _ this)
    have hN := po7_N P M a.toNat
    have hI : inI (k : Int) := by omega
    have hm2 := mdl_out hk1 (k : Int)
    obtain ⟨r, M', e, hok', hk', h8, hd⟩ := ref (oJ M1 48 0 (k : Int)) (ok_out hok1 hI) hm2
    rw [SR_po P h hm2 (p := a.toNat) (by omega)] at hd
    rcases hd with ⟨hy, -⟩ | ⟨-, h3, ⟨hy, -⟩ | ⟨-, k', s', hRS', hrr⟩⟩
    · exact absurd hx hy
    · exact absurd hy h0
    · rw [hrr, ← (RSet_uq P hRS hRS').1] at e
      exact ⟨M', lcG_a (xa_roots ht hI) e h3 hI ((ko_48 hk').trans (out_1 _ _)), SR_sm h hm2 (show sm7 M (oJ M1 48 0 (k : Int)) from hs) hk' hok' h8⟩
theorem st_parts {S : Type} [Lean.Grind.CommRing S] {co : S → Nat → Int} (P : isPol co) {M : MI} (h : SR M) {a b : Int} (ha : inI a) (hb : inI b) {n : Nat} (hn : 18446744073709551616 ≤ n) : ∃ M', lcG (fL_parts n a b M) (f_X8_parts n a b) = some M' ∧ SR M' := by
  obtain ⟨hM, hpb, -, hr, -⟩ := id h
  obtain ⟨M1, hok1, hk1, hs, hcc⟩ := c_parts7 P hM (SR_bd7 h) ha hb hn
  have ref := fun (M2 : MI) (ho : ok M2) (hm : mdl M M2) => s_parts8 P ho (SR_bd8 h hm) ha hb hn
  have hm1 := mdl_ko7 hk1
  rcases hcc with ⟨hx, ht⟩ | ⟨hx, hp, ht⟩ | ⟨hx, hp, ⟨h0, ht⟩ | ⟨h0, hdv, R, T, I, J, ct, K, hpp, φ, hφ, L, hL, ht⟩⟩
  · obtain ⟨r, M', e, hok', hk', h8, hd⟩ := ref M1 hok1 hm1
    rcases hd with ⟨-, h3⟩ | ⟨hy, -⟩ | ⟨hy, -⟩
    · exact ⟨M', lcG_t (xt_parts_1 ht) (by omega) e h3, SR_sm h hm1 hs hk' hok' h8⟩
    · exact absurd hy hx
    · exact absurd hy hx
  · obtain ⟨r, M', e, hok', hk', h8, hd⟩ := ref M1 hok1 hm1
    rcases hd with ⟨hy, -⟩ | ⟨-, -, h3⟩ | ⟨-, hy, -⟩
    · exact absurd hx hy
    · exact ⟨M', lcG_t (xt_parts_3 ht) (by omega) e h3, SR_sm h hm1 hs hk' hok' h8⟩
    · exact absurd hy hp
  · have hm2 := mdl_out hk1 (-1)
    obtain ⟨r, M', e, hok', hk', h8, hd⟩ := ref (oJ M1 48 0 (-1)) (ok_out hok1 (by omega)) hm2
    rcases hd with ⟨hy, -⟩ | ⟨-, hy, -⟩ | ⟨-, -, h3, hd⟩
    · exact absurd hx hy
    · exact absurd hp hy
    · rcases hd with ⟨-, hrr⟩ | ⟨y1, y2, -⟩
      · rw [hrr] at e
        exact ⟨M', lcG_a (xa_parts ht (by omega)) e h3 (by omega) ((ko_48 hk').trans (out_1 _ _)), SR_sm h hm2 (show sm7 M (oJ M1 48 0 (-1)) from hs) hk' hok' h8⟩
      · rw [SR_po P h hm2 (p := a.toNat) (by omega)] at y1 y2
        rcases h0 with z | z
        · exact absurd z y1
        · exact absurd z y2
  · have hN := po7_N P M a.toNat
    obtain ⟨p, hpb⟩ : ∃ p : Nat, b = p := ⟨b.toNat, by omega⟩
    have hdv' : ¬ ((b.toNat : Nat) : Int) ∣ co (po7 P M a.toNat) (nu co (po7 P M a.toNat) - 1) := by rw [show ((b.toNat : Nat) : Int) = b by omega]; exact hdv
    have hrN := rd_N P K hpp hφ hdv'
    have hr0 : rd P K hpp hφ (po7 P M a.toNat) ≠ 0 := fun z => by rw [(nu_zero K).mpr z] at hrN; omega
    have hLl := FL_len K hpp.2.2.1 hr0 hL
    have hI : inI ((L.length : Nat) : Int) := by omega
    have hm2 := mdl_out hk1 ((L.length : Nat) : Int)
    obtain ⟨r, M', e, hok', hk', h8, hd⟩ := ref (oJ M1 48 0 ((L.length : Nat) : Int)) (ok_out hok1 hI) hm2
    have ep := SR_po P h hm2 (p := a.toNat) (by omega)
    rcases hd with ⟨hy, -⟩ | ⟨-, hy, -⟩ | ⟨-, -, h3, hd⟩
    · exact absurd hx hy
    · exact absurd hp hy
    · rcases hd with ⟨y, -⟩ | ⟨-, -, hall⟩
      · rw [ep] at y
        rcases y with z | z
        · exact absurd z h0
        · exact absurd z hdv
      · have hrr := hall K hpp hφ (L := L) (by rw [ep]; exact hL)
        rw [hrr] at e
        exact ⟨M', lcG_a (xa_parts ht hI) e h3 hI ((ko_48 hk').trans (out_1 _ _)), SR_sm h hm2 (show sm7 M (oJ M1 48 0 ((L.length : Nat) : Int)) from hs) hk' hok' h8⟩
theorem st_squareFree {S : Type} [Lean.Grind.CommRing S] {co : S → Nat → Int} (P : isPol co) {M : MI} (h : SR M) {a : Int} (ha : inI a) {n : Nat} (hn : 18446744073709551616 ≤ n) : ∃ M', lcB (fL_squareFree n a M) (f_X8_squareFree n a) = some M' ∧ SR M' := by
  obtain ⟨hM, hpb, -, hr, -⟩ := id h
  obtain ⟨M1, hok1, hk1, hs, hcc⟩ := c_squareFree7 P hM (SR_bd7 h) ha hn
  have ref := fun (M2 : MI) (ho : ok M2) (hm : mdl M M2) => s_squareFree8 P ho (SR_pb h hm) (SR_bd8 h hm) ha hn
  have hm1 := mdl_ko7 hk1
  rcases hcc with ⟨hx, ht⟩ | ⟨hx, v, ht, hv⟩
  · obtain ⟨r, M', e, hok', hk', h8, hd⟩ := ref M1 hok1 hm1
    rcases hd with ⟨-, h3⟩ | ⟨hy, -⟩
    · exact ⟨M', lcB_t (xt_squareFree_1 ht) (by omega) e h3, SR_sm h hm1 hs hk' hok' h8⟩
    · exact absurd hy hx
  · have h01 : v = 0 ∨ v = 1 := by
      rcases hv with ⟨-, z⟩ | ⟨-, z⟩ | ⟨-, d, -, z⟩
      · exact Or.inl z
      · exact Or.inr z
      · rw [z]; split <;> omega
    have hm2 := mdl_out hk1 v
    obtain ⟨r, M', e, hok', hk', h8, hd⟩ := ref (oJ M1 48 0 v) (ok_out hok1 (by omega)) hm2
    rcases hd with ⟨hy, -⟩ | ⟨-, h3, hd⟩
    · exact absurd hx hy
    · rw [SR_po P h hm2 (p := a.toNat) (by omega)] at hd
      have hrr : r = v := by
        rcases hv with ⟨z1, z⟩ | ⟨z1, z⟩ | ⟨z1, d, z2, z⟩
        · rcases hd with ⟨-, y⟩ | ⟨y1, -⟩ | ⟨y1, -⟩
          · rw [y, z]
          · omega
          · omega
        · rcases hd with ⟨y1, -⟩ | ⟨-, y⟩ | ⟨y1, -⟩
          · omega
          · rw [y, z]
          · omega
        · rcases hd with ⟨y1, -⟩ | ⟨y1, -⟩ | ⟨-, d', y2, y⟩
          · omega
          · omega
          · rw [y, z, isG_uq P y2 z2]
      rw [hrr] at e
      exact ⟨M', lcB_a (xa_squareFree ht h01) e h3 h01 ((ko_48 hk').trans (out_1 _ _)), SR_sm h hm2 (show sm7 M (oJ M1 48 0 v) from hs) hk' hok' h8⟩
theorem st_run {S : Type} [Lean.Grind.CommRing S] {co : S → Nat → Int} (P : isPol co) {M : MI} (h : SR M) {a : Int} (ha : inI a) {n : Nat} (hn : 18446744073709551616 ≤ n) : ∃ M', lcG (fL_run n a M) (f_X8_run n a) = some M' ∧ SR M' := by
  obtain ⟨hM, hpb, ⟨g, hg, g7, g8⟩, hr, -⟩ := id h
  obtain ⟨M1, hok1, hk1, hc⟩ := c_run7 P hM (SR_bd7 h) g7 hg ha hn
  have hm1 := mdl_ko7 hk1
  by_cases hx : 0 ≤ a ∧ a < 80
  · have ref := fun (M2 : MI) (ho : ok M2) (hm : mdl M M2) => s_run P (M := M2) ho (SR_pb h hm) (p := a.toNat) (g := g) (by omega) ((hm 36 2 (by omega) (by omega)).trans g8) hg (F0 := po7 P M a.toNat) (fun j hj => by
      rw [hm 38 _ (by omega) (by omega)]
      exact (cpo_lo P _ hj).trans (hr a.toNat j (by omega) hj).1) (fun j hj => cpo_hi P _ hj) (po7_X P (SR_bd7 h) (p := a.toNat) (by omega)) hn
    rw [show ((a.toNat : Nat) : Int) = a by omega] at ref
    obtain ⟨A, hA⟩ : ∃ A, A = po7 P M a.toNat := ⟨_, rfl⟩
    rw [← hA] at hc ref
    have hNA : nu co A ≤ 11 := by rw [hA]; exact po7_N P M a.toNat
    rcases hc with ⟨hy, -⟩ | ⟨-, h0, ht, hs⟩ | ⟨-, h2, hroom, ht, hs⟩ | ⟨-, h0, hroom, F, k, fo, es, hAF, hsc, hFS, hk10, hgk, hans⟩
    · exact absurd hx hy
    · have hm2 := mdl_out hk1 (-1)
      obtain ⟨r, M', e, hok', hk', hd⟩ := ref (oJ M1 48 0 (-1)) (ok_out hok1 (by omega)) hm2
      rcases hd with ⟨-, hrr, h3, h8⟩ | ⟨hy, -⟩ | ⟨hy, -⟩
      · rw [hrr] at e
        exact ⟨M', lcG_a (xa_run ht (by omega)) e h3 (by omega) ((ko_48 hk').trans (out_1 _ _)), SR_sm h hm2 (show sm7 M (oJ M1 48 0 (-1)) from hs) hk' hok' h8⟩
      · omega
      · exact absurd h0 hy
    · obtain ⟨r, M', e, hok', hk', hd⟩ := ref M1 hok1 hm1
      rcases hd with ⟨hy, -⟩ | ⟨-, -, -, h3, h8⟩ | ⟨-, hy, -⟩
      · omega
      · exact ⟨M', lcG_t (xt_run_2 ht) (by omega) e h3, SR_sm h hm1 hs hk' hok' h8⟩
      · omega
    · have huq : ∀ (F' : S) (k' : Nat) (fo' : Nat → S) (es' : Nat → Nat), A = mo P (sc co A) 0 * F' → FSet P F' k' fo' es' → k = k' ∧ ∀ i, i < k → fo i = fo' i ∧ es i = es' i := fun F' k' fo' es' h1 h2 => by
        have hc0 : mo P (sc co A) 0 ≠ 0 := fun z => by
          have := (mo_co P (sc co A) 0 0).symm
          rw [z, p_zero P, if_pos rfl] at this
          exact hsc this
        have e : F' = F := z_cancel P hc0 (by rw [← h1, ← hAF])
        rw [e] at h2
        exact FSet_uq P hFS h2
      rcases hans with ⟨ht, hns, hs⟩ | ⟨ht, hsm, hkp⟩
      · have hm2 := mdl_out hk1 (-2)
        obtain ⟨r, M', e, hok', hk', hd⟩ := ref (oJ M1 48 0 (-2)) (ok_out hok1 (by omega)) hm2
        rcases hd with ⟨hy, -⟩ | ⟨hy1, hy2, -⟩ | ⟨-, -, h3, F', k', fo', es', hAF', hFS', -, -, hd⟩
        · exact absurd hy h0
        · omega
        · obtain ⟨ek, ee⟩ := huq F' k' fo' es' hAF' hFS'
          rcases hd with ⟨hrr, -, h8⟩ | ⟨-, hy, -⟩
          · rw [hrr] at e
            exact ⟨M', lcG_a (xa_run ht (by omega)) e h3 (by omega) ((ko_48 hk').trans (out_1 _ _)), SR_sm h hm2 (show sm7 M (oJ M1 48 0 (-2)) from hs) hk' hok' h8⟩
          · refine absurd (fun i hi => ?_) hns
            rw [(ee i hi).1]
            exact hy i (by omega)
      · have hI : inI (k : Int) := by omega
        have hm2 := mdl_out hk1 (k : Int)
        obtain ⟨r, M', e, hok', hk', hd⟩ := ref (oJ M1 48 0 (k : Int)) (ok_out hok1 hI) hm2
        rcases hd with ⟨hy, -⟩ | ⟨hy1, hy2, -⟩ | ⟨-, -, h3, F', k', fo', es', hAF', hFS', -, -, hd⟩
        · exact absurd hy h0
        · omega
        · obtain ⟨ek, ee⟩ := huq F' k' fo' es' hAF' hFS'
          subst ek
          rcases hd with ⟨-, hy, -⟩ | ⟨hrr, -, h8⟩
          · refine absurd (fun i hi => ?_) hy
            rw [← (ee i hi).1]
            exact hsm i hi
          · rw [hrr] at e
            exact ⟨M', lcG_a (xa_run ht hI) e h3 hI ((ko_48 hk').trans (out_1 _ _)), SR_kept h hm2 (show kept7 co M (oJ M1 48 0 (k : Int)) g k fo es from hkp) hk' hok' h8 ee hsm hgk hk10⟩
  · rcases hc with ⟨-, ht, hs⟩ | ⟨hy, -⟩ | ⟨hy, -⟩ | ⟨hy, -⟩
    · exact ⟨_, lcG_t (xt_run_1 ht) (by omega) (s_run0 hok1 ha hx) (th_fl M1 1), SR_sm h hm1 hs (ko_oI M1 (a := 36) (by omega) 3 1) (ok_oI hok1 (by omega)) (sm8_fl M1 (i := 3) (by omega) (by omega) 1)⟩
    · exact absurd hy hx
    · exact absurd hy hx
    · exact absurd hy hx
end MSt2
