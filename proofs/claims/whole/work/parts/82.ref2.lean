/-! the reference: primitive, load, store, great, derive -/
section MRef2
def cg (v : Nat → Int) : Nat → Nat
  | 0 => 0
  | k + 1 => Nat.gcd (cg v k) (v k).natAbs
theorem cg_le {v : Nat → Int} {B : Nat} : ∀ {k : Nat}, (∀ i, i < k → (v i).natAbs ≤ B) → cg v k ≤ B
  | 0, _ => Nat.zero_le _
  | k + 1, h => by
    have h1 := cg_le (fun i hi => h i (by omega) : ∀ i, i < k → (v i).natAbs ≤ B)
    simp only [cg]
    rcases Nat.eq_zero_or_pos (cg v k) with q | q
    · rw [q, Nat.gcd_zero_left]; exact h k (by omega)
    · exact Nat.le_trans (Nat.gcd_le_left _ q) h1
theorem cg_dv {v : Nat → Int} : ∀ {k : Nat} (i : Nat), i < k → cg v k ∣ (v i).natAbs
  | 0, i, h => absurd h (by omega)
  | k + 1, i, h => by
    simp only [cg]
    rcases Nat.lt_or_ge i k with q | q
    · exact Nat.dvd_trans (Nat.gcd_dvd_left _ _) (cg_dv i q)
    · rw [show i = k by omega]; exact Nat.gcd_dvd_right _ _
theorem cg_gr {v : Nat → Int} {d : Nat} : ∀ {k : Nat}, (∀ i, i < k → d ∣ (v i).natAbs) → d ∣ cg v k
  | 0, _ => Nat.dvd_zero d
  | k + 1, h => by
    simp only [cg]
    exact Nat.dvd_gcd (cg_gr (fun i hi => h i (by omega))) (h k (by omega))
def dvM (M : MI) (s : Nat) (c : Int) (j : Nat) : MI := (fun k i => if k = 41 ∧ 24 * s ≤ i ∧ i < 24 * s + j then (M.1 41 i).tdiv c else M.1 k i, M.2)
theorem s_primitive {M : MI} (hM : ok M) {s : Nat} (hs : s < 60) (hd : dg M s ≤ 23) (hw : ∀ j : Nat, (j : Int) ≤ dg M s → -9223372036854775807 ≤ wv M s j) {n : Nat} (hn : 18446744073709551616 ≤ n) :
    f_X8_primitive n s M = (if cg (wv M s) (dg M s + 1).toNat = 0 then some (0, M) else
      some ((if wv M s (dg M s).toNat < 0 then -((cg (wv M s) (dg M s + 1).toNat : Nat) : Int) else (cg (wv M s) (dg M s + 1).toNat : Nat)), dvM M s (if wv M s (dg M s).toNat < 0 then -((cg (wv M s) (dg M s + 1).toNat : Nat) : Int) else (cg (wv M s) (dg M s + 1).toNat : Nat)) (dg M s + 1).toNat)) := by
  have hr := hM.2 42 s
  have eD : dg M s = M.2 42 s := rfl
  have hB : ∀ j : Nat, (j : Int) ≤ dg M s → (wv M s j).natAbs ≤ 9223372036854775807 := fun j hj => by
    have := hw j hj
    have := (hM.1 41 (24 * s + j)).2
    have ej : wv M s j = M.1 41 (24 * s + j) := rfl
    omega
  have hcB : ∀ k, k ≤ (dg M s + 1).toNat → cg (wv M s) k ≤ 9223372036854775807 := fun k hk => cg_le (fun i hi => hB i (by omega))
  obtain ⟨r, h1, rfl⟩ := lp_do (step := l_X8_primitive_5 n s M) (fun st => ∃ j : Nat, st = ((cg (wv M s) j : Int), (j : Int)) ∧ j ≤ (dg M s + 1).toNat) (fun st => ((dg M s + 1) - st.2).toNat) (fun r => r = (cg (wv M s) (dg M s + 1).toNat : Int)) (fun st ⟨j, hst, hj⟩ => by
    subst hst
    unfold l_X8_primitive_5
    dsimp only
    rw [odI_n s rfl rfl (by rw [k42.2]; exact hs), bs, gI_s (by omega) hr, bs]
    by_cases hlt : M.2 42 s < j
    · rw [if_pos hlt]
      exact Or.inl ⟨_, rfl, by rw [show j = (dg M s + 1).toNat by omega]⟩
    · have h24 := hB j (by omega)
      have ej : wv M s j = M.1 41 (24 * s + j) := rfl
      have hc := hcB j (by omega)
      rw [if_neg hlt, odJ_n (24 * s + j) rfl (by omega) (by rw [k41.2]; omega), bs, s_common (by omega) (by omega) hn, bs]
      refine Or.inr ⟨_, rfl, ⟨j + 1, ?_, by omega⟩, by dsimp only; omega⟩
      refine Prod.ext ?_ (by dsimp only; omega)
      dsimp only
      simp only [cg, Int.natAbs_natCast]) n (0, 0) ⟨0, rfl, by omega⟩ (by dsimp only; omega)
  unfold f_X8_primitive
  have hcD := hcB (dg M s + 1).toNat (by omega)
  rw [h1, bs, gJ_s (by omega) (by omega), bs]
  by_cases h0 : cg (wv M s) (dg M s + 1).toNat = 0
  · rw [if_pos (by omega), if_pos h0]
  · rw [if_neg (by omega), if_neg h0]
    have hd0 : 0 ≤ dg M s := by
      rcases Int.lt_or_le (dg M s) 0 with q | q
      · exact absurd (by rw [show (dg M s + 1).toNat = 0 by omega]; rfl) h0
      · exact q
    have hwd := hB (dg M s).toNat (by omega)
    have ed : wv M s (dg M s).toNat = M.1 41 (24 * s + (dg M s).toNat) := rfl
    rw [odI_n s rfl rfl (by rw [k42.2]; exact hs), bs, odJ_n (24 * s + (dg M s).toNat) rfl (by show 24 * (s : Int) + dg M s = _; omega) (by rw [k41.2]; omega), bs, gJ_s (by omega) (by omega)]
    obtain ⟨c, hc⟩ : ∃ c : Int, c = (if wv M s (dg M s).toNat < 0 then -((cg (wv M s) (dg M s + 1).toNat : Nat) : Int) else (cg (wv M s) (dg M s + 1).toNat : Nat)) := ⟨_, rfl⟩
    rw [← hc]
    have e1 : (Option.bind (some ()) fun _ => if 0 ≤ M.1 41 (24 * s + (dg M s).toNat) then some ((cg (wv M s) (dg M s + 1).toNat : Nat) : Int) else some (-((cg (wv M s) (dg M s + 1).toNat : Nat) : Int))) = some c := by
      rw [bs, hc]
      by_cases h : M.1 41 (24 * s + (dg M s).toNat) < 0
      · rw [if_neg (by omega), if_pos h]
      · rw [if_pos (by omega), if_neg h]
    rw [e1, bs]
    have hc0 : c ≠ 0 := by rw [hc]; split <;> omega
    have hcr : inJ c := by rw [hc]; split <;> omega
    obtain ⟨r, h2, rfl⟩ := lp_do (step := l_X8_primitive_74 s c) (fun st => ∃ j : Nat, st = (dvM M s c j, (j : Int)) ∧ j ≤ (dg M s + 1).toNat) (fun st => ((dg M s + 1) - st.2).toNat) (fun r => r = dvM M s c (dg M s + 1).toNat) (fun st ⟨j, hst, hj⟩ => by
      subst hst
      unfold l_X8_primitive_74
      dsimp only
      rw [odI_n s rfl rfl (by rw [k42.2]; exact hs), bs]
      have e : (dvM M s c j).2 42 s = dg M s := rfl
      rw [e, gI_s (by omega) hr, bs]
      by_cases hlt : dg M s < j
      · rw [if_pos hlt]
        exact Or.inl ⟨_, rfl, by rw [show j = (dg M s + 1).toNat by omega]⟩
      · have h24 := hB j (by omega)
        have e3 : (dvM M s c j).1 41 (24 * s + j) = wv M s j := by unfold dvM; dsimp only; rw [if_neg (by omega)]
        have e4 : oqJ (wv M s j) c = some ((wv M s j).tdiv c) := by
          unfold oqJ
          rw [if_pos ⟨by omega, hcr, hc0, by omega⟩]
        rw [if_neg hlt, odJ_n (24 * s + j) rfl (by omega) (by rw [k41.2]; omega), bs, e3, e4, bs, osJ_n (24 * s + j) rfl (by omega) (by rw [k41.2]; omega), bs]
        refine Or.inr ⟨_, rfl, ⟨j + 1, Prod.ext (Prod.ext ?_ rfl) (by dsimp only; omega), by omega⟩, by dsimp only; omega⟩
        funext k i
        show (oJ (dvM M s c j) 41 (24 * s + j) ((wv M s j).tdiv c)).1 k i = (dvM M s c (j + 1)).1 k i
        rw [oJ_1]
        unfold dvM
        dsimp only
        by_cases hk : k = 41
        · subst hk
          by_cases hi : i = 24 * s + j
          · subst hi
            rw [if_pos ⟨rfl, rfl⟩, if_pos (by omega)]
          · rw [if_neg (by omega)]
            by_cases hw : 24 * s ≤ i ∧ i < 24 * s + j
            · rw [if_pos (by omega), if_pos (by omega)]
            · rw [if_neg (by omega), if_neg (by omega)]
        · rw [if_neg (by omega), if_neg (by omega), if_neg (by omega)]) n (M, 0) ⟨0, by unfold dvM; refine Prod.ext (Prod.ext (funext fun k => funext fun i => ?_) rfl) rfl; dsimp only; rw [if_neg (by omega)], by omega⟩ (by dsimp only; omega)
    rw [h2, bs]
end MRef2
