/-! a constant is added -/
section MRefF
theorem s_addConstant {T R : Type} [Lean.Grind.CommRing T] [Lean.Grind.CommRing R] {ct : T → Nat → R} (K : isPol ct) {p : Nat} (hp : isZp R p) {φ : Int → R} (hφ : isRed φ p) {M : MI} (hM : ok M) {s : Nat} (hs : s < 60) (hm : M.1 36 9 = p) (hm2 : p ≤ 1000000000000) {f : T} (hf : RP ct φ p M s f) (hN : nu ct f ≤ 24) {c : Int} (hc : 0 ≤ c) (hc2 : c < 4611686018427387904) {n : Nat} (hn : 18446744073709551616 ≤ n) : ∃ M', f_X8_addConstant n s c M = some M' ∧ ok M' ∧ chg [s] M M' ∧ RP ct φ p M' s (f + mo K (φ c) 0) := by
  have hp2 := hp.1.1
  have hd : M.2 42 s = (nu ct f : Int) - 1 := hf.1
  unfold f_X8_addConstant
  rw [odI_n s rfl rfl (by rw [k42.2]; exact hs), bs, hd, gI_s (by omega) (by omega), bs, hm]
  by_cases h0 : nu ct f = 0
  · have hf0 : f = 0 := (nu_zero K).mp h0
    rw [if_neg (by omega)]
    have e1 : orJ c p = some (c % p) := by
      unfold orJ
      rw [if_pos ⟨by omega, by omega, by omega, by omega⟩, tmod_nn hc]
    have q1 := Int.emod_nonneg c (show (p : Int) ≠ 0 by omega)
    have q2 := Int.emod_lt_of_pos c (show (0 : Int) < p by omega)
    rw [e1, bs, s_constant hs (by omega), bs]
    have hz : c % p = 0 ↔ φ c = 0 := by
      rw [hφ.2.2.1]
      exact ⟨fun z => Int.dvd_of_emod_eq_zero z, fun z => Int.emod_eq_zero_of_dvd z⟩
    have hfe : f + mo K (φ c) 0 = mo K (φ c) 0 := by rw [hf0]; grind
    refine ⟨_, rfl, ok_oI (ok_oJ hM (by omega)) (by split <;> omega), ?_, ?_⟩
    · refine chg_mono (chg_trans (chg_win (s := s) (M' := oJ M 41 (24 * s) (c % p)) rfl (fun k i h => by rw [oJ_1, if_neg (by omega)])) (chg_oI _)) (fun x hx => by simpa using hx)
    · rw [hfe]
      refine ⟨?_, fun j hj => ?_⟩
      · show (oI (oJ M 41 (24 * s) (c % p)) 42 s (if c % p = 0 then -1 else 0)).2 42 s = _
        rw [oI_2, if_pos ⟨rfl, rfl⟩]
        by_cases z : c % p = 0
        · rw [if_pos z, hz.mp z, mo_zero, (nu_zero K).mpr rfl]; rfl
        · rw [if_neg z, mo_N K 0 (fun w => z (hz.mpr w))]; rfl
      · have hj0 : j = 0 := by
          have : nu ct (mo K (φ c) 0) ≤ 1 := nu_le K (fun i hi => by rw [mo_co K, if_neg (by omega)])
          omega
        have ew : wv (oI (oJ M 41 (24 * s) (c % p)) 42 s (if c % p = 0 then -1 else 0)) s j = c % p := by
          show (oJ M 41 (24 * s) (c % p)).1 41 (24 * s + j) = _
          rw [oJ_1, if_pos ⟨rfl, by omega⟩]
        rw [ew, mo_co K, if_pos hj0]
        exact ⟨q1, q2, red_md hφ c⟩
  · rw [if_pos (by omega)]
    obtain ⟨x1, x2, x3⟩ := hf.2 0 (by omega)
    have ex : M.1 41 (24 * s + 0) = wv M s 0 := rfl
    have e1 : orJ (wv M s 0 + c) p = some ((wv M s 0 + c) % p) := by
      unfold orJ
      rw [if_pos ⟨by omega, by omega, by omega, by omega⟩, tmod_nn (by omega)]
    have q1 := Int.emod_nonneg (wv M s 0 + c) (show (p : Int) ≠ 0 by omega)
    have q2 := Int.emod_lt_of_pos (wv M s 0 + c) (show (0 : Int) < p by omega)
    rw [odJ_n (24 * s + 0) rfl (by omega) (by rw [k41.2]; omega), bs, ex, e1, bs, osJ_n (24 * s + 0) rfl (by omega) (by rw [k41.2]; omega), bs, odI_n s rfl rfl (by rw [k42.2]; exact hs), bs]
    obtain ⟨M1, hM1⟩ : ∃ M1, M1 = oJ M 41 (24 * s + 0) ((wv M s 0 + c) % p) := ⟨_, rfl⟩
    rw [← hM1]
    have hd1 : M1.2 42 s = (nu ct f : Int) - 1 := by rw [hM1]; exact hd
    have hok1 : ok M1 := by rw [hM1]; exact ok_oJ hM (by omega)
    obtain ⟨t1, t2, t3⟩ := s_trimP K hφ hok1 hs (t := (nu ct f : Int) - 1) (by omega) (by omega) (f := f + mo K (φ c) 0) (fun j hj => by
      rw [hM1, wv_oJ (by omega) _ (by omega), p_add K, mo_co K]
      by_cases z : j = 0
      · rw [if_pos ⟨rfl, z⟩, if_pos z, z]
        exact ⟨q1, q2, by rw [red_md hφ, hφ.1, x3]⟩
      · rw [if_neg (fun w => z w.2), if_neg z]
        obtain ⟨w1, w2, w3⟩ := hf.2 j (by omega)
        exact ⟨w1, w2, by rw [w3]; grind⟩) (fun j hj => by rw [p_add K, mo_co K, if_neg (by omega), nu_hi K f (by omega)]; grind) hn
    rw [hd1, t1, bs]
    refine ⟨_, rfl, t3, chg_mono (chg_trans (chg_win (s := s) (M' := M1) (by rw [hM1]; rfl) (fun k i h => by rw [hM1, oJ_1, if_neg (by omega)])) (chg_oI _)) (fun x hx => by simpa using hx), t2⟩
end MRefF
