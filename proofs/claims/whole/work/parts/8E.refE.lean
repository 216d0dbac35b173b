/-! the letter, constants -/
section MRefE
theorem s_letter {T R : Type} [Lean.Grind.CommRing T] [Lean.Grind.CommRing R] {ct : T → Nat → R} (K : isPol ct) {p : Nat} (hp : isZp R p) {φ : Int → R} (hφ : isRed φ p) {M : MI} (hM : ok M) {s : Nat} (hs : s < 60) : ∃ M', f_X8_letter s M = some M' ∧ ok M' ∧ chg [s] M M' ∧ RP ct φ p M' s (mo K 1 1) := by
  have hp2 := hp.1.1
  have hF := hp.2.2.1
  have hNX : nu ct (mo K (1 : R) 1) = 2 := mo_N K 1 hF.1
  refine ⟨oI (oJ (oJ M 41 (24 * s + 0) 0) 41 (24 * s + 1) 1) 42 s 1, ?_, ok_oI (ok_oJ (ok_oJ hM (by omega)) (by omega)) (by omega), ?_, ?_, fun j hj => ?_⟩
  · unfold f_X8_letter
    rw [osJ_n (24 * s + 0) rfl (by omega) (by rw [k41.2]; omega), bs, osJ_n (24 * s + 1) rfl (by omega) (by rw [k41.2]; omega), bs, osI_n s rfl rfl (by rw [k42.2]; exact hs), bs]
  · refine chg_mono (chg_trans (chg_win (s := s) (M' := oJ (oJ M 41 (24 * s + 0) 0) 41 (24 * s + 1) 1) rfl (fun k i h => ?_)) (chg_oI _)) (fun x hx => by simpa using hx)
    rw [oJ_1, if_neg (by omega), oJ_1, if_neg (by omega)]
  · show (oI (oJ (oJ M 41 (24 * s + 0) 0) 41 (24 * s + 1) 1) 42 s 1).2 42 s = _
    rw [oI_2, if_pos ⟨rfl, rfl⟩, hNX]; rfl
  · rw [hNX] at hj
    have ew : wv (oI (oJ (oJ M 41 (24 * s + 0) 0) 41 (24 * s + 1) 1) 42 s 1) s j = if j = 1 then 1 else 0 := by
      show wv (oJ (oJ M 41 (24 * s + 0) 0) 41 (24 * s + 1) 1) s j = _
      rw [wv_oJ (by omega) _ (by omega)]
      by_cases h1 : j = 1
      · rw [if_pos ⟨rfl, h1⟩, if_pos h1]
      · rw [if_neg (fun z => h1 z.2), if_neg h1, wv_oJ (by omega) _ (by omega), if_pos ⟨rfl, by omega⟩]
    rw [ew, mo_co K]
    by_cases h1 : j = 1
    · rw [if_pos h1, if_pos h1]; exact ⟨by omega, by omega, hφ.2.2.2⟩
    · rw [if_neg h1, if_neg h1]; exact ⟨by omega, by omega, red_zero hφ⟩
end MRefE
