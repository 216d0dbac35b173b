/-! the class's roots: divisors -/
section MRootC
/-- what listDivisors has listed below d -/
def dlk (w d e : Nat) : Prop := e ∣ w ∧ (e < d ∨ w < d * e)
theorem c_listDivisors {M : MI} (hM : ok M) {a : Nat} (hka : kd a = 2) (hna : kn a = 64) {v : Int} (hv : v ≠ 0) (hv2 : nz v ≤ 9999) {n : Nat} (hn : 18446744073709551616 ≤ n) :
    ∃ (M' : MI) (c : Nat) (t : Nat → Nat), f_X4_listDivisors n v a M = some ((c : Int), M') ∧ ok M' ∧ chJ [a] M M' ∧ c ≤ 64 ∧ (∀ j, j < c → M'.1 a j = t j ∧ 1 ≤ t j ∧ t j ≤ 9999) ∧ (∀ e, (∃ j, j < c ∧ t j = e) ↔ e ∣ v.natAbs) ∧ ∀ i j, i < j → j < c → t i ≠ t j := by
  obtain ⟨w, hw⟩ : ∃ w : Nat, w = v.natAbs := ⟨_, rfl⟩
  have hv3 := nz_le.mp hv2
  have hw0 : 0 < w := by omega
  have hw9 : w ≤ 9999 := by omega
  rw [← hw]
  obtain ⟨⟨M', ci⟩, hL, c, t, q1, q2, q3, q4, q5, q6, q7⟩ := lp_do (step := l_X4_listDivisors_17 a w) (fun st => (∃ (d c : Nat) (t : Nat → Nat), st.2.1 = c ∧ st.2.2 = d ∧ 1 ≤ d ∧ d ≤ 101 ∧ c = 2 * cn w d ∧ (∀ e, e < d → e * e < w ∨ e * e = w ∧ d = e + 1) ∧ ok st.1 ∧ chJ [a] M st.1 ∧ c ≤ 64 ∧ (∀ j, j < c → st.1.1 a j = t j) ∧ (∀ e, (∃ j, j < c ∧ t j = e) ↔ dlk w d e) ∧ (∀ i j, i < j → j < c → t i ≠ t j)) ∨ ∃ (d c : Nat) (t : Nat → Nat), st.2.1 = c ∧ st.2.2 = d ∧ 1 ≤ d ∧ d ≤ 101 ∧ w < d * d ∧ ok st.1 ∧ chJ [a] M st.1 ∧ c ≤ 64 ∧ (∀ j, j < c → st.1.1 a j = t j) ∧ (∀ e, (∃ j, j < c ∧ t j = e) ↔ dlk w d e) ∧ (∀ i j, i < j → j < c → t i ≠ t j)) (fun st => (200 - st.2.2).toNat) (fun r => ∃ (c : Nat) (t : Nat → Nat), r.2 = c ∧ ok r.1 ∧ chJ [a] M r.1 ∧ c ≤ 64 ∧ (∀ j, j < c → r.1.1 a j = t j) ∧ (∀ e, (∃ j, j < c ∧ t j = e) ↔ e ∣ w) ∧ (∀ i j, i < j → j < c → t i ≠ t j)) (fun st hst => by
    obtain ⟨M1, ci, di⟩ := st
    have hfin : ∀ (d : Nat) (c : Nat) (t : Nat → Nat), w < d * d → (∀ e, (∃ j, j < c ∧ t j = e) ↔ dlk w d e) → ∀ e, (∃ j, j < c ∧ t j = e) ↔ e ∣ w := fun d c t h1 h2 e => by
      rw [h2 e]
      refine ⟨fun z => z.1, fun z => ⟨z, ?_⟩⟩
      rcases Nat.lt_or_ge e d with y | y
      · exact Or.inl y
      · right
        have : d * d ≤ d * e := Nat.mul_le_mul_left d y
        omega
    rcases hst with ⟨d, c, t, a1, a2, a3, a4, a5, a6, a7, a8, a9, b1, b2, b3⟩ | ⟨d, c, t, a1, a2, a3, a4, a5, a7, a8, a9, b1, b2, b3⟩
    · dsimp only at a1 a2 a7 a8 b1
      subst a1 a2
      unfold l_X4_listDivisors_17
      dsimp only
      have hdd : d * d ≤ 101 * 101 := Nat.mul_le_mul a4 a4
      have ecast : ((d : Int) * (d : Int)) = ((d * d : Nat) : Int) := by rw [Int.natCast_mul]
      rw [ecast, gJ_s (by omega) (by omega), bs]
      by_cases hlt : (w : Int) < ((d * d : Nat) : Int)
      · rw [if_pos hlt]
        exact Or.inl ⟨_, rfl, c, t, rfl, a7, a8, a9, b1, hfin d c t (by omega) b2, b3⟩
      · rw [if_neg hlt, gI_s (by omega) (by omega), bs]
        have hddw : d * d ≤ w := by omega
        have hd100 : d ≤ 99 := by
          rcases Nat.lt_or_ge d 100 with z | z
          · omega
          · exfalso
            have : 100 * 100 ≤ d * d := Nat.mul_le_mul z z
            omega
        by_cases hfull : (64 : Int) < (c : Int) + 2
        · rw [if_pos hfull]
          have hc32 : 32 ≤ cn w d := by omega
          refine Or.inl ⟨_, rfl, c, t, rfl, a7, a8, a9, b1, fun e => ?_, b3⟩
          rw [b2 e]
          refine ⟨fun z => z.1, fun z => ⟨z, ?_⟩⟩
          rcases Nat.lt_or_ge e d with y | y
          · exact Or.inl y
          · right
            apply Classical.byContradiction
            intro hno
            obtain ⟨x, hx⟩ := z
            have hx0 : 0 < x := by
              rcases Nat.eq_zero_or_pos x with q | q
              · rw [q] at hx; omega
              · exact q
            have hdx : d ≤ x := by
              rcases Nat.lt_or_ge x d with q | q
              · exfalso
                have h3 : (x + 1) * e ≤ d * e := Nat.mul_le_mul_right e q
                have h4 : (x + 1) * e = e * x + e := by grind
                have : w < d * e := by omega
                exact hno this
              · exact q
            rcases Nat.le_total e x with q | q
            · exact cn_no hw0 hw9 hc32 y (by rw [hx]; exact Nat.mul_le_mul_left e q) ⟨x, hx⟩
            · exact cn_no hw0 hw9 hc32 hdx (by rw [hx]; exact Nat.mul_le_mul_right x q) ⟨e, by rw [hx, Nat.mul_comm]⟩
        · have er : orJ (w : Int) (d : Int) = some ((w % d : Nat) : Int) := by
            unfold orJ
            rw [if_pos ⟨by omega, by omega, by omega, by omega⟩, tmod_nn (by omega)]
            exact congrArg some (Int.natCast_emod w d).symm
          have hmd := Nat.mod_lt w (show 0 < d by omega)
          rw [if_neg hfull, er, bs, gJ_s (by omega) (by omega), bs]
          have hsq : ∀ e, e < d + 1 → e * e < w ∨ e * e = w ∧ d + 1 = e + 1 := fun e he => by
            rcases Nat.lt_or_ge e d with y | y
            · left
              have h3 : e * e < d * d := Nat.mul_lt_mul_of_lt_of_le y (by omega) (by omega)
              omega
            · have : e = d := by omega
              rw [this]
              rcases Nat.lt_or_ge (d * d) w with x | x
              · exact Or.inl x
              · exact Or.inr ⟨by omega, rfl⟩
          have hnew : ∀ e, dlk w (d + 1) e ↔ dlk w d e ∨ (e ∣ w ∧ (e = d ∨ e * d = w)) := fun e => by
            unfold dlk
            have hexp : (d + 1) * e = d * e + e := by grind
            constructor
            · rintro ⟨z1, z2 | z2⟩
              · rcases Nat.lt_or_ge e d with y | y
                · exact Or.inl ⟨z1, Or.inl y⟩
                · exact Or.inr ⟨z1, Or.inl (by omega)⟩
              · rcases Nat.lt_or_ge w (d * e) with y | y
                · exact Or.inl ⟨z1, Or.inr y⟩
                · right
                  refine ⟨z1, Or.inr ?_⟩
                  obtain ⟨x, hx⟩ := id z1
                  have he0 : 0 < e := by
                    rcases Nat.eq_zero_or_pos e with q | q
                    · rw [q] at hx; omega
                    · exact q
                  have h5 : d ≤ x := by
                    rw [hx, Nat.mul_comm d e] at y
                    exact Nat.le_of_mul_le_mul_left y he0
                  have h6 : x < d + 1 := by
                    rw [hx, Nat.mul_comm (d + 1) e] at z2
                    exact Nat.lt_of_mul_lt_mul_left z2
                  rw [hx, show x = d by omega]
            · rintro (⟨z1, z2 | z2⟩ | ⟨z1, z2 | z2⟩)
              · exact ⟨z1, Or.inl (by omega)⟩
              · exact ⟨z1, Or.inr (by omega)⟩
              · exact ⟨z1, Or.inl (by omega)⟩
              · refine ⟨z1, Or.inr ?_⟩
                have he0 : 0 < e := by
                  rcases Nat.eq_zero_or_pos e with q | q
                  · rw [q] at z2; omega
                  · exact q
                have : d * e = w := by rw [Nat.mul_comm]; exact z2
                omega
          by_cases hdv : ((w % d : Nat) : Int) = 0
          · have hdw : d ∣ w := Nat.dvd_of_mod_eq_zero (by omega)
            rw [if_pos hdv, osJ_n c hka rfl (by rw [hna]; omega), bs, bs]
            have hdnl : ∀ j, j < c → t j ≠ d := fun j hj e => by
              obtain ⟨-, z | z⟩ := (b2 d).mp ⟨j, hj, e⟩ <;> omega
            by_cases heq : ((d * d : Nat) : Int) = w
            · rw [if_pos heq, bs]
              refine Or.inr ⟨_, rfl, Or.inr ⟨d + 1, c + 1, fun j => if j = c then d else t j, rfl, rfl, by omega, by omega, by
                have : (d + 1) * (d + 1) = d * d + 2 * d + 1 := by grind
                omega, ok_oJ a7 (by omega), chJ_mono (chJ_trans a8 (chJ_oJ M1 a c d)) (fun x hx => by simpa using hx), by omega, fun j hj => ?_, fun e => ?_, fun i j hij hj => ?_⟩, by dsimp only; omega⟩
              · dsimp only
                rw [oJ_1]
                by_cases z : j = c
                · rw [if_pos ⟨rfl, z⟩, if_pos z]
                · rw [if_neg (fun q => z q.2), if_neg z]; exact b1 j (by omega)
              · rw [hnew e, ← b2 e]
                constructor
                · rintro ⟨j, hj, e1⟩
                  dsimp only at e1
                  by_cases z : j = c
                  · rw [if_pos z] at e1
                    exact Or.inr ⟨by rw [← e1]; exact hdw, Or.inl e1.symm⟩
                  · rw [if_neg z] at e1
                    exact Or.inl ⟨j, by omega, e1⟩
                · rintro (⟨j, hj, e1⟩ | ⟨-, z⟩)
                  · exact ⟨j, by omega, by dsimp only; rw [if_neg (by omega)]; exact e1⟩
                  · refine ⟨c, by omega, ?_⟩
                    dsimp only
                    rw [if_pos rfl]
                    rcases z with z | z
                    · exact z.symm
                    · have : e * d = d * d := by omega
                      exact (Nat.eq_of_mul_eq_mul_right (by omega) this).symm
              · dsimp only
                rw [if_neg (show i ≠ c by omega)]
                by_cases z : j = c
                · rw [if_pos z]; exact hdnl i (by omega)
                · rw [if_neg z]; exact b3 i j hij (by omega)
            · have eq : oqJ (w : Int) (d : Int) = some ((w / d : Nat) : Int) := by
                unfold oqJ
                rw [if_pos ⟨by omega, by omega, by omega, by omega⟩]
                exact congrArg some (by rw [Int.tdiv_eq_ediv_of_nonneg (by omega)]; exact (Int.natCast_ediv w d).symm)
              have hwd : w / d * d = w := Nat.div_mul_cancel hdw
              have hwdle : w / d ≤ w := Nat.div_le_self _ _
              have hwd2 : d < w / d := by
                rcases Nat.lt_or_ge d (w / d) with y | y
                · exact y
                · exfalso
                  have : w / d * d ≤ d * d := Nat.mul_le_mul_right d y
                  omega
              have hwdnl : ∀ j, j < c → t j ≠ w / d := fun j hj e => by
                obtain ⟨-, z | z⟩ := (b2 (w / d)).mp ⟨j, hj, e⟩
                · omega
                · rw [Nat.mul_comm] at z; omega
              rw [if_neg heq, eq, bs, osJ_n (c + 1) hka (show (c : Int) + 1 = ((c + 1 : Nat) : Int) by omega) (by rw [hna]; omega), bs, bs]
              refine Or.inr ⟨_, rfl, Or.inl ⟨d + 1, c + 1 + 1, fun j => if j = c + 1 then w / d else if j = c then d else t j, rfl, rfl, by omega, by omega, by rw [cn_s, if_pos (by omega)]; omega, hsq, ok_oJ (ok_oJ a7 (by omega)) (by omega), chJ_mono (chJ_trans a8 (chJ_trans (chJ_oJ M1 a c d) (chJ_oJ _ a (c + 1) _))) (fun x hx => by simpa using hx), by omega, fun j hj => ?_, fun e => ?_, fun i j hij hj => ?_⟩, by dsimp only; omega⟩
              · dsimp only
                rw [oJ_1]
                by_cases z : j = c + 1
                · rw [if_pos ⟨rfl, z⟩, if_pos z]
                · rw [if_neg (fun q => z q.2), if_neg z, oJ_1]
                  by_cases y : j = c
                  · rw [if_pos ⟨rfl, y⟩, if_pos y]
                  · rw [if_neg (fun q => y q.2), if_neg y]; exact b1 j (by omega)
              · rw [hnew e, ← b2 e]
                constructor
                · rintro ⟨j, hj, e1⟩
                  dsimp only at e1
                  by_cases z : j = c + 1
                  · rw [if_pos z] at e1
                    exact Or.inr ⟨⟨d, by rw [← e1]; omega⟩, Or.inr (by rw [← e1]; exact hwd)⟩
                  · rw [if_neg z] at e1
                    by_cases y : j = c
                    · rw [if_pos y] at e1
                      exact Or.inr ⟨by rw [← e1]; exact hdw, Or.inl e1.symm⟩
                    · rw [if_neg y] at e1
                      exact Or.inl ⟨j, by omega, e1⟩
                · rintro (⟨j, hj, e1⟩ | ⟨-, z⟩)
                  · exact ⟨j, by omega, by dsimp only; rw [if_neg (by omega), if_neg (by omega)]; exact e1⟩
                  · rcases z with z | z
                    · exact ⟨c, by omega, by dsimp only; rw [if_neg (by omega), if_pos rfl]; exact z.symm⟩
                    · refine ⟨c + 1, by omega, ?_⟩
                      dsimp only
                      rw [if_pos rfl]
                      exact (Nat.eq_of_mul_eq_mul_right (show 0 < d by omega) (by omega)).symm
              · dsimp only
                by_cases z : j = c + 1
                · rw [if_pos z, if_neg (by omega)]
                  by_cases y : i = c
                  · rw [if_pos y]; omega
                  · rw [if_neg y]; exact hwdnl i (by omega)
                · rw [if_neg z, if_neg (show i ≠ c + 1 by omega), if_neg (show i ≠ c by omega)]
                  by_cases y : j = c
                  · rw [if_pos y]; exact hdnl i (by omega)
                  · rw [if_neg y]; exact b3 i j hij (by omega)
          · rw [if_neg hdv, bs]
            refine Or.inr ⟨_, rfl, Or.inl ⟨d + 1, c, t, rfl, rfl, by omega, by omega, by rw [cn_s, if_neg (by omega)]; omega, hsq, a7, a8, a9, b1, fun e => ?_, b3⟩, by dsimp only; omega⟩
            rw [hnew e, ← b2 e]
            refine ⟨fun z => Or.inl z, ?_⟩
            rintro (z | ⟨z, y | y⟩)
            · exact z
            · exact absurd (Nat.mod_eq_zero_of_dvd (show d ∣ w by rw [← y]; exact z)) (by omega)
            · exact absurd (Nat.mod_eq_zero_of_dvd (show d ∣ w from ⟨e, by rw [← y, Nat.mul_comm]⟩)) (by omega)
    · dsimp only at a1 a2 a7 a8 b1
      subst a1 a2
      unfold l_X4_listDivisors_17
      dsimp only
      have hdd : d * d ≤ 101 * 101 := Nat.mul_le_mul a4 a4
      have ecast : ((d : Int) * (d : Int)) = ((d * d : Nat) : Int) := by rw [Int.natCast_mul]
      rw [ecast, gJ_s (by omega) (by omega), bs, if_pos (by omega)]
      exact Or.inl ⟨_, rfl, c, t, rfl, a7, a8, a9, b1, hfin d c t a5 b2, b3⟩) n (M, 0, 1) (Or.inl ⟨1, 0, fun _ => 0, rfl, rfl, by omega, by omega, by rw [cn_s, Nat.mod_zero, if_neg (by omega)]; rfl, fun e he => by left; rw [show e = 0 by omega]; omega, hM, chJ_refl _ _, by omega, fun j hj => absurd hj (by omega), fun e => ⟨fun ⟨j, hj, _⟩ => absurd hj (by omega), fun ⟨z1, z2⟩ => by
      exfalso
      have := Nat.le_of_dvd hw0 z1
      rcases z2 with z2 | z2
      · rw [show e = 0 by omega] at z1
        obtain ⟨x, hx⟩ := z1
        omega
      · omega⟩, fun i j _ hj => absurd hj (by omega)⟩) (by dsimp only; omega)
  dsimp only at q1
  subst q1
  refine ⟨M', c, t, ?_, q2, q3, q4, fun j hj => ⟨q5 j hj, ?_⟩, q6, q7⟩
  · unfold f_X4_listDivisors
    rw [j_abs (by omega), bs, ← hw, j_minJ (by omega) (by omega), bs]
    have e : (if (w : Int) < 9999 then (w : Int) else 9999) = w := by split <;> omega
    rw [e, hL, bs]
  · have hd := (q6 (t j)).mp ⟨j, hj, rfl⟩
    have := Nat.le_of_dvd hw0 hd
    refine ⟨?_, by omega⟩
    rcases Nat.eq_zero_or_pos (t j) with z | z
    · rw [z] at hd
      obtain ⟨x, hx⟩ := hd
      omega
    · exact z
end MRootC
