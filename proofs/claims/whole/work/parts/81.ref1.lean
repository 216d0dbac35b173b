/-! the reference's small methods -/
section MRef1
theorem k41 : kd 41 = 2 ∧ kn 41 = 1440 := ⟨rfl, rfl⟩
theorem k42 : kd 42 = 1 ∧ kn 42 = 60 := ⟨rfl, rfl⟩
/-- row s: its place j -/
abbrev wv (M : MI) (s j : Nat) : Int := M.1 41 (24 * s + j)
abbrev dg (M : MI) (s : Nat) : Int := M.2 42 s
theorem s_trim {M : MI} (hM : ok M) {s : Nat} (hs : s < 60) {t : Int} (ht : t ≤ 23) (ht0 : -100 ≤ t) {n : Nat} (hn : 30 ≤ n) : ∃ d, f_X8_trim n s t M = some (oI M 42 s d) ∧ d ≤ t ∧ (-1 ≤ d ∨ d = t) ∧ (∀ j : Nat, d < j → (j : Int) ≤ t → wv M s j = 0) ∧ (∀ j : Nat, d = j → wv M s j ≠ 0) := by
  obtain ⟨d, h1, ⟨h2, h3, h4⟩, h5⟩ := lp_do (step := l_X8_trim_2 s M) (fun v => v ≤ t ∧ (-1 ≤ v ∨ v = t) ∧ ∀ j : Nat, v < j → (j : Int) ≤ t → wv M s j = 0) (fun v => (v + 1).toNat) (fun d => (d ≤ t ∧ (-1 ≤ d ∨ d = t) ∧ ∀ j : Nat, d < j → (j : Int) ≤ t → wv M s j = 0) ∧ ∀ j : Nat, d = j → wv M s j ≠ 0) (fun v ⟨hv1, hv2, hv3⟩ => by
    unfold l_X8_trim_2
    rw [gI_s (by omega) (by omega), bs]
    by_cases hv : v < 0
    · rw [if_pos hv]
      exact Or.inl ⟨v, rfl, ⟨hv1, hv2, hv3⟩, fun j hj => by omega⟩
    · rw [if_neg hv]
      obtain ⟨j, rfl⟩ : ∃ j : Nat, v = j := ⟨v.toNat, by omega⟩
      rw [odJ_n (24 * s + j) rfl (by omega) (by rw [k41.2]; omega), bs, gJ_s (hM.1 _ _) (by omega), bs]
      by_cases h0 : M.1 41 (24 * s + j) = 0
      · rw [if_pos h0]
        refine Or.inr ⟨_, rfl, ⟨by omega, by omega, fun i hi1 hi2 => ?_⟩, by omega⟩
        rcases Nat.lt_or_ge j i with q | q
        · exact hv3 i (by omega) hi2
        · rw [show i = j by omega]; exact h0
      · rw [if_neg h0]
        exact Or.inl ⟨_, rfl, ⟨hv1, hv2, hv3⟩, fun i hi => by rw [show i = j by omega]; exact h0⟩) n t ⟨by omega, Or.inr rfl, fun j hj1 hj2 => by omega⟩ (by omega)
  refine ⟨d, ?_, h2, h3, h4, h5⟩
  unfold f_X8_trim
  rw [h1, bs, osI_n s rfl rfl (by rw [k42.2]; exact hs), bs]
theorem s_abs {x : Int} (hx : inJ x) : f_X8_abs x = some (if x < 0 then -x else x) := by
  unfold f_X8_abs
  rw [gJ_s hx (by omega), bs]
  by_cases h : x < 0
  · rw [if_neg (show ¬ 0 ≤ x by omega), if_pos h]; rfl
  · rw [if_pos (show 0 ≤ x by omega), if_neg h]; rfl
theorem s_constant {M : MI} {s : Nat} (hs : s < 60) {x : Int} (hx : inJ x) : f_X8_constant s x M = some (oI (oJ M 41 (24 * s) x) 42 s (if x = 0 then -1 else 0)) := by
  unfold f_X8_constant
  rw [osJ_n (24 * s) rfl (by omega) (by rw [k41.2]; omega), bs, gJ_s hx (by omega)]
  by_cases h : x = 0
  · simp [h, bs, osI_n s rfl rfl (show s < kn 42 by rw [k42.2]; exact hs)]
  · simp [h, bs, osI_n s rfl rfl (show s < kn 42 by rw [k42.2]; exact hs)]
theorem wv_oJ {M : MI} {s j : Nat} (hj : j < 24) (x : Int) {a i : Nat} (hi : i < 24) : wv (oJ M 41 (24 * s + j) x) a i = if a = s ∧ i = j then x else wv M a i := by
  unfold wv
  rw [oJ_1]
  by_cases h : a = s ∧ i = j
  · rw [if_pos h, if_pos ⟨rfl, by omega⟩]
  · rw [if_neg h, if_neg (fun q => h (by omega))]
theorem s_get {M : MI} (hM : ok M) {s k : Nat} (hs : s < 60) (hk : k < 24) : f_X8_get s k M = some (if (k : Int) ≤ dg M s then wv M s k else 0) := by
  unfold f_X8_get
  rw [odI_n s rfl rfl (by rw [k42.2]; exact hs), bs, gI_s (by omega) (hM.2 _ _), bs]
  by_cases h : (k : Int) ≤ M.2 42 s
  · rw [if_pos h, if_pos h, odJ_n (24 * s + k) rfl (by omega) (by rw [k41.2]; omega)]; rfl
  · rw [if_neg h, if_neg h]; rfl
def cpM (M : MI) (a b j : Nat) : MI := (fun k i => if k = 41 ∧ 24 * b ≤ i ∧ i < 24 * b + j then M.1 41 (24 * a + (i - 24 * b)) else M.1 k i, M.2)
theorem s_copy {M : MI} (hM : ok M) {a b : Nat} (ha : a < 60) (hb : b < 60) (hd : dg M a ≤ 23) {n : Nat} (hn : 30 ≤ n) : f_X8_copy n a b M = some (oI (cpM M a b (dg M a + 1).toNat) 42 b (dg M a)) := by
  have hr := hM.2 42 a
  obtain ⟨r, h1, rfl⟩ := lp_do (step := l_X8_copy_2 a b) (fun st => ∃ j : Nat, st = (cpM M a b j, (j : Int)) ∧ j ≤ (dg M a + 1).toNat) (fun st => ((dg M a + 1) - st.2).toNat) (fun r => r = cpM M a b (dg M a + 1).toNat) (fun st ⟨j, hst, hj⟩ => by
    subst hst
    unfold l_X8_copy_2
    dsimp only
    rw [odI_n a rfl rfl (by rw [k42.2]; exact ha), bs]
    have e : (cpM M a b j).2 42 a = dg M a := rfl
    rw [e, gI_s (by omega) hr, bs]
    by_cases hlt : dg M a < j
    · rw [if_pos hlt]
      exact Or.inl ⟨_, rfl, by rw [show j = (dg M a + 1).toNat by omega]⟩
    · rw [if_neg hlt, odJ_n (24 * a + j) rfl (by omega) (by rw [k41.2]; omega), bs, osJ_n (24 * b + j) rfl (by omega) (by rw [k41.2]; omega), bs]
      refine Or.inr ⟨_, rfl, ⟨j + 1, Prod.ext (Prod.ext ?_ rfl) (by dsimp only; omega), by omega⟩, by dsimp only; omega⟩
      funext k i
      show (oJ (cpM M a b j) 41 (24 * b + j) ((cpM M a b j).1 41 (24 * a + j))).1 k i = (cpM M a b (j + 1)).1 k i
      rw [oJ_1]
      unfold cpM
      dsimp only
      by_cases hk : k = 41
      · subst hk
        by_cases hi : i = 24 * b + j
        · subst hi
          rw [if_pos ⟨rfl, rfl⟩, if_neg (by omega), if_pos (by omega), show 24 * b + j - 24 * b = j by omega]
        · rw [if_neg (by omega)]
          by_cases hw : 24 * b ≤ i ∧ i < 24 * b + j
          · rw [if_pos (by omega), if_pos (by omega)]
          · rw [if_neg (by omega), if_neg (by omega)]
      · rw [if_neg (by omega), if_neg (by omega), if_neg (by omega)]) n (M, 0) ⟨0, by unfold cpM; refine Prod.ext (Prod.ext (funext fun k => funext fun i => ?_) rfl) rfl; dsimp only; rw [if_neg (by omega)], by omega⟩ (by dsimp only; omega)
  unfold f_X8_copy
  rw [h1, bs, odI_n a rfl rfl (by rw [k42.2]; exact ha), bs, osI_n b rfl rfl (by rw [k42.2]; exact hb), bs]
  rfl
theorem s_common {x y : Int} (hx : -9223372036854775807 ≤ x ∧ x ≤ 9223372036854775807) (hy : -9223372036854775807 ≤ y ∧ y ≤ 9223372036854775807) {n : Nat} (hn : 18446744073709551616 ≤ n) : f_X8_common n x y = some ((Nat.gcd x.natAbs y.natAbs : Nat) : Int) := by
  have habs : ∀ z : Int, (if z < 0 then -z else z) = (z.natAbs : Int) := by intro z; split <;> omega
  obtain ⟨r, h1, rfl⟩ := lp_do (step := l_X8_common_12) (fun st => ∃ a b : Nat, st = ((a : Int), (b : Int)) ∧ a ≤ 9223372036854775807 ∧ b ≤ 9223372036854775807 ∧ Nat.gcd a b = Nat.gcd x.natAbs y.natAbs) (fun st => st.2.toNat) (fun r => r = ((Nat.gcd x.natAbs y.natAbs : Nat) : Int)) (fun st ⟨a, b, hst, ha, hb, hg⟩ => by
    subst hst
    unfold l_X8_common_12
    dsimp only
    rw [gJ_s (by omega) (by omega), bs]
    by_cases h0 : (b : Int) = 0
    · rw [if_pos h0]
      refine Or.inl ⟨_, rfl, ?_⟩
      rw [← hg, show b = 0 by omega, Nat.gcd_zero_right]
    · rw [if_neg h0]
      have hm := Nat.mod_lt a (show 0 < b by omega)
      have e : orJ (a : Int) (b : Int) = some ((a % b : Nat) : Int) := by
        unfold orJ
        rw [if_pos ⟨by omega, by omega, h0, by omega⟩]; rfl
      rw [e, bs]
      refine Or.inr ⟨_, rfl, ⟨b, a % b, rfl, hb, by omega, ?_⟩, by dsimp only; omega⟩
      rw [← hg, Nat.gcd_comm a b, Nat.gcd_rec b a, Nat.gcd_comm]) n ((x.natAbs : Int), (y.natAbs : Int)) ⟨_, _, rfl, by omega, by omega, rfl⟩ (by dsimp only; omega)
  unfold f_X8_common
  rw [s_abs (by omega), bs, s_abs (by omega), bs, habs, habs, h1, bs]
end MRef1
