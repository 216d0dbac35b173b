/-! the class's field: raise, nearest, lift -/
section MCls6
theorem oshrJ_n {z : Int} (h : inJ z) {k : Nat} (hk : k < 31) : oshrJ z k = z / (2 ^ k : Nat) := by
  unfold oshrJ
  have e2 : ∀ k : Fin 31, (((Int32.ofInt (k.1 : Int)).toInt64 &&& 63).toBitVec.smod 64).toNat = k.1 := by decide
  show (BitVec.sshiftRight' (Int64.ofInt z).toBitVec (((Int32.ofInt (k : Int)).toInt64 &&& 63).toBitVec.smod 64)).toInt = _
  rw [BitVec.toInt_sshiftRight', e2 ⟨k, hk⟩]
  have e3 : (Int64.ofInt z).toBitVec.toInt = z := i6_t h
  rw [e3, Int.shiftRight_eq_div_pow]
theorem c_raise {R T : Type} [Lean.Grind.CommRing R] [Lean.Grind.CommRing T] {ct : T → Nat → R} (K : isPol ct) {p : Nat} (hp : isZp R p) {φ : Int → R} (hφ : isRed φ p) (hp2 : p ≤ 100000000) {M : MI} (hM : ok M) {a c d : Nat} (ha : row a) (hc : row c) (hd : row d) (ha15 : a ≠ 15) (hc15 : c ≠ 15) (hd15 : d ≠ 15) (hda : d ≠ a) (hdc : d ≠ c) (hm : M.1 1 0 = p) {f h : T} (hf : CP ct φ p M a f) (hh : CP ct φ p M c h) (hh0 : 2 ≤ nu ct h) (hh1 : ct h (nu ct h - 1) = 1) (hNf : nu ct f < nu ct h) {e : Nat} (he : e < 2147483648) {n : Nat} (hn : 18446744073709551616 ≤ n) : ∃ M' r, f_X3_raise n a e c ((nu ct h : Int) - 1) d M = some M' ∧ ok M' ∧ chJ [15, d] M M' ∧ dv h (f ^ e - r) ∧ nu ct r < nu ct h ∧ CP ct φ p M' d r := by
  have hp1 := hp.1.1
  have hF := hp.2.2.1
  have hone : nu ct (1 : T) = 1 := nu_eq K (fun i hi => by rw [p_one K, if_neg (by omega)]) (fun _ => by rw [p_one K, if_pos (by omega)]; exact hF.1)
  have e1 := j_fill (M := M) (a := d) hd.1 (by rw [hd.2]; omega) 0 hn
  rw [hd.2] at e1
  obtain ⟨M1, hM1⟩ : ∃ M1, M1 = oJ (wrM M d 0 11 (fun _ => 0)) d 0 1 := ⟨_, rfl⟩
  have hok1 : ok M1 := by rw [hM1]; exact ok_oJ (ok_wrM hM (fun _ _ => by omega)) (by omega)
  have hc1 : chJ [d] M M1 := by rw [hM1]; exact chJ_mono (chJ_trans (chJ_wr M d 0 11 _) (chJ_oJ _ d 0 1)) (fun x hx => by simpa using hx)
  have c1 : CP ct φ p M1 d 1 := ⟨fun i hi => by
    rw [hM1, oJ_1, p_one K]
    by_cases z : i = 0
    · rw [if_pos ⟨rfl, z⟩, if_pos z]; exact ⟨by omega, by omega, hφ.2.2.2⟩
    · rw [if_neg (fun w => z w.2), if_neg z, wrM_1, if_pos (by omega)]; exact ⟨by omega, by omega, red_zero hφ⟩, by omega⟩
  obtain ⟨M', hL, h1, h2, r, h3, h4, h5⟩ := lp_do (step := l_X3_raise_15 n a e c ((nu ct h : Int) - 1) d) (fun st => ok st.1 ∧ chJ [15, d] M1 st.1 ∧ ∃ (t : Nat) (r : T), st.2 = (t : Int) - 1 ∧ t ≤ 31 ∧ CP ct φ p st.1 d r ∧ nu ct r < nu ct h ∧ dv h (f ^ (e / 2 ^ t) - r)) (fun st => (st.2 + 1).toNat) (fun M' => ok M' ∧ chJ [15, d] M1 M' ∧ ∃ r, CP ct φ p M' d r ∧ nu ct r < nu ct h ∧ dv h (f ^ e - r)) (fun st hst => by
    obtain ⟨Ma, y⟩ := st
    obtain ⟨k1, k2, t, r, hy, ht, cr, hrn, hr⟩ := hst
    dsimp only at k1 k2 hy cr
    subst hy
    unfold l_X3_raise_15
    dsimp only
    rw [gI_s (by omega) (by omega), bs]
    by_cases hlt : (t : Int) - 1 < 0
    · rw [if_pos hlt]
      rw [show t = 0 by omega, Nat.pow_zero, Nat.div_one] at hr
      exact Or.inl ⟨_, rfl, k1, k2, r, cr, hrn, hr⟩
    · obtain ⟨b, rfl⟩ : ∃ b, t = b + 1 := ⟨t - 1, by omega⟩
      have eb : (((b + 1 : Nat) : Int)) - 1 = (b : Int) := by omega
      have esh : oshrJ (e : Int) (b : Int) = ((e / 2 ^ b : Nat) : Int) := by
        rw [oshrJ_n (by omega) (by omega)]
        exact (Int.natCast_ediv e (2 ^ b)).symm
      have hub : e / 2 ^ b ≤ e := Nat.div_le_self _ _
      have hdd : e / 2 ^ (b + 1) = e / 2 ^ b / 2 := by rw [Nat.pow_succ, Nat.div_div_eq_div_mul]
      obtain ⟨U, hU⟩ : ∃ U, e / 2 ^ b = U := ⟨_, rfl⟩
      rw [hU] at esh hub hdd
      rw [hdd] at hr
      have hma : Ma.1 1 0 = p := by rw [k2.2 1 0 (by simp; exact fun z => row_ne hd z.symm), hc1.2 1 0 (by simp; exact fun z => row_ne hd z.symm)]; exact hm
      have cha := CP_ch (CP_ch hh hc1 (by simpa using fun z => hdc z.symm)) k2 (by simp; exact ⟨hc15, fun z => hdc z.symm⟩)
      have cfa := CP_ch (CP_ch hf hc1 (by simpa using fun z => hda z.symm)) k2 (by simp; exact ⟨ha15, fun z => hda z.symm⟩)
      rw [if_neg hlt, eb, esh, gJ_s (by omega) (by omega), bs]
      -- the square
      have hsq : ∃ Mb r2, (if ((U : Nat) : Int) ≤ 1 then some Ma else Option.bind (f_X3_multiply n d d c ((nu ct h : Int) - 1) d Ma) fun v5 => some v5) = some Mb ∧ ok Mb ∧ chJ [15, d] Ma Mb ∧ CP ct φ p Mb d r2 ∧ nu ct r2 < nu ct h ∧ dv h (f ^ (2 * (U / 2)) - r2) := by
        by_cases z : ((U : Nat) : Int) ≤ 1
        · refine ⟨Ma, r, by rw [if_pos z], k1, chJ_refl _ _, cr, hrn, ?_⟩
          rw [show U / 2 = 0 by omega] at hr ⊢
          exact hr
        · obtain ⟨Mb, q, r2, eb2, hokb, hcb, hq, hr2, crb⟩ := c_multiply K hp hφ hp2 k1 hd hd hc hd hd15 hd15 hc15 hd15 hma cr cr cha hh0 hh1 hrn hrn hn
          refine ⟨Mb, r2, by rw [if_neg z, eb2, bs], hokb, hcb, crb, hr2, ?_⟩
          have h7 := cg_pw hr 2
          rw [← pw_mul] at h7
          have e7 : r ^ 2 = q * h + r2 := by rw [← hq, show r ^ 2 = r ^ (1 + 1) from rfl, pw_succ, pw1]
          rw [e7, Nat.mul_comm] at h7
          obtain ⟨w, hw⟩ := h7
          exact ⟨w + q, by grind⟩
      obtain ⟨Mb, r2, eb2, hokb, hcb, crb, hrn2, hr2⟩ := hsq
      have hmb : Mb.1 1 0 = p := by rw [hcb.2 1 0 (by simp; exact fun z => row_ne hd z.symm)]; exact hma
      rw [eb2, bs, oand1 (by omega) (by omega), gJ_s (by omega) (by omega), bs]
      by_cases hod : ((U : Nat) : Int) % 2 = 1
      · obtain ⟨Mc, q, r3, ec, hokc, hcc, hq, hr3, crc⟩ := c_multiply K hp hφ hp2 hokb hd ha hc hd hd15 ha15 hc15 hd15 hmb crb (CP_ch cfa hcb (by simp; exact ⟨ha15, fun z => hda z.symm⟩)) (CP_ch cha hcb (by simp; exact ⟨hc15, fun z => hdc z.symm⟩)) hh0 hh1 hrn2 hNf hn
        rw [if_pos hod, ec, bs, bs]
        refine Or.inr ⟨_, rfl, ⟨hokc, chJ_mono (chJ_trans k2 (chJ_trans hcb hcc)) (fun x hx => by simp at hx ⊢; omega), b, r3, by dsimp only; omega, by omega, crc, hr3, ?_⟩, by dsimp only; omega⟩
        rw [hU]
        obtain ⟨w, hw⟩ := hr2
        have e8 : f ^ U = f ^ (2 * (U / 2)) * f := by rw [← pw_succ, show 2 * (U / 2) + 1 = U by omega]
        refine ⟨w * f + q, ?_⟩
        rw [e8]
        have : f ^ (2 * (U / 2)) = r2 + h * w := by rw [← hw]; grind
        rw [this]
        have : r3 = r2 * f - q * h := by rw [hq]; grind
        rw [this]; grind
      · rw [if_neg hod, bs]
        refine Or.inr ⟨_, rfl, ⟨hokb, chJ_mono (chJ_trans k2 hcb) (fun x hx => by simp at hx ⊢; omega), b, r2, by dsimp only; omega, by omega, crb, hrn2, ?_⟩, by dsimp only; omega⟩
        rw [hU, show U = 2 * (U / 2) by omega]
        exact hr2) n (M1, 30) ⟨hok1, chJ_refl _ _, 31, 1, rfl, by omega, c1, by omega, by rw [Nat.div_eq_of_lt (by omega), pw_zero]; exact ⟨0, by grind⟩⟩ (by dsimp only; omega)
  refine ⟨M', r, ?_, h1, chJ_mono (chJ_trans hc1 h2) (fun x hx => by simp at hx ⊢; omega), h5, h4, h3⟩
  unfold f_X3_raise
  rw [e1, bs, osJ_n (i := 0) 0 hd.1 rfl (by rw [hd.2]; omega), bs, ← hM1, hL, bs]
theorem c_nearest {p : Nat} (hp : 2 ≤ p) (hp2 : p ≤ 100000000) {M : MI} (hm : M.1 1 0 = p) {x : Int} (hx : -9223372036854775807 ≤ x ∧ x ≤ 9223372036854775807) : f_X3_nearest x M = some (if x % p ≤ (p : Int) / 2 then x % p else x % p - p) := by
  have hq : oqJ (p : Int) 2 = some ((p : Int) / 2) := by
    unfold oqJ
    rw [if_pos ⟨by omega, by omega, by omega, by omega⟩, Int.tdiv_eq_ediv_of_nonneg (by omega)]
  have h1 : 0 ≤ x % (p : Int) := Int.emod_nonneg _ (by omega)
  have h2 : x % (p : Int) < p := Int.emod_lt_of_pos _ (by omega)
  unfold f_X3_nearest
  rw [hm, j_floorMod hx (by omega), bs, hq, bs, gJ_s (by omega) (by omega), bs]
  split <;> rfl
theorem near_ok {p : Nat} (hod : p % 2 = 1) (x : Int) : 2 * nz (if x % p ≤ (p : Int) / 2 then x % p else x % p - p) < p := by
  have h1 : 0 ≤ x % (p : Int) := Int.emod_nonneg _ (by omega)
  have h2 : x % (p : Int) < p := Int.emod_lt_of_pos _ (by omega)
  unfold nz
  split <;> omega
theorem near_red {R : Type} [Lean.Grind.CommRing R] {p : Nat} {φ : Int → R} (hφ : isRed φ p) (x : Int) : φ (if x % p ≤ (p : Int) / 2 then x % p else x % p - p) = φ x := by
  split
  · exact red_md hφ x
  · rw [red_sub hφ, red_md hφ, (hφ.2.2.1 (p : Int)).mpr ⟨1, by omega⟩]; grind
theorem c_lift {S T R : Type} [Lean.Grind.CommRing S] [Lean.Grind.CommRing T] [Lean.Grind.CommRing R] {co : S → Nat → Int} (P : isPol co) {ct : T → Nat → R} (K : isPol ct) {p : Nat} (hp : isZp R p) {φ : Int → R} (hφ : isRed φ p) (hp2 : p ≤ 100000000) (hod : p % 2 = 1) {M : MI} (hM : ok M) {a : Nat} (ha : row a) (hm : M.1 1 0 = p) {f : T} (hf : CP ct φ p M a f) {s : Int} (hs : 0 < s) (hs2 : s ≤ 10000000) {n : Nat} (hn : 18446744073709551616 ≤ n) : ∃ M' l, f_X3_lift n a s M = some M' ∧ ok M' ∧ chJ [a] M M' ∧ CZ co M' a l ∧ rd P K hp hφ l = mo K (φ s) 0 * f ∧ ∀ i, 2 * nz (co l i) < p := by
  have hp1 := hp.1.1
  obtain ⟨V, hV⟩ : ∃ V : Nat → Int, V = fun i => if M.1 a i * s % p ≤ (p : Int) / 2 then M.1 a i * s % p else M.1 a i * s % p - p := ⟨_, rfl⟩
  have hVb : ∀ i, 2 * nz (V i) < p := fun i => by rw [hV]; exact near_ok hod _
  have hL : lpF (l_X3_lift_3 a s) n (M, 0) = some (wrM M a 0 11 V) := by
    have e := lp_for (step := l_X3_lift_3 a s) (fun k => (wrM M a 0 k V, (k : Int))) (wrM M a 0 11 V) 11 n (fun k hk => by
      obtain ⟨x1, x2, -⟩ := hf.1 k hk
      have q1 : (wrM M a 0 k V).1 a k = M.1 a k := by rw [wrM_1, if_neg (by omega)]
      have q2 : (wrM M a 0 k V).1 1 0 = p := by rw [wrM_1, if_neg (fun z => row_ne ha z.1.symm)]; exact hm
      have hb0 : 0 ≤ M.1 a k * s := Int.mul_nonneg x1 (by omega)
      have hb1 : M.1 a k * s ≤ 100000000 * 10000000 := Int.mul_le_mul (by omega) hs2 (by omega) (by omega)
      have eV : (if M.1 a k * s % p ≤ (p : Int) / 2 then M.1 a k * s % p else M.1 a k * s % p - p) = V k := by rw [hV]
      unfold l_X3_lift_3
      dsimp only
      rw [gI_s (by omega) (by omega), bs, if_neg (by omega), odJ_n k ha.1 rfl (by rw [ha.2]; omega), bs, q1, c_nearest hp1 hp2 q2 (by omega), bs, eV, osJ_n k ha.1 rfl (by rw [ha.2]; omega), bs]
      have := wrM_s M a 0 k V
      rw [Nat.zero_add] at this
      rw [this]
      rfl) (by
      unfold l_X3_lift_3
      dsimp only
      rw [gI_s (by omega) (by omega), bs, if_pos (by omega)]) (by omega)
    rw [wrM_0] at e
    exact e
  obtain ⟨l, hl⟩ := P.2.2.2.2.1 (fun i => if i < 11 then V i else 0) 11 (fun i hi => if_neg (by omega))
  refine ⟨wrM M a 0 11 V, l, ?_, ok_wrM hM (fun i _ => by have := hVb i; unfold nz at this; omega), chJ_wr M a 0 11 V, ⟨fun i hi => by rw [wrM_1, if_pos (by omega), Nat.sub_zero, hl i, if_pos hi], nu_le P (fun i hi => by rw [hl i, if_neg (by omega)])⟩, p_ext K (fun i => ?_), fun i => ?_⟩
  · unfold f_X3_lift
    rw [hL, bs]
  · rw [rd_co P K hp hφ, hl i, mo_0 K]
    by_cases z : i < 11
    · rw [if_pos z, hV]; dsimp only
      rw [near_red hφ, hφ.2.1, (hf.1 i z).2.2]; grind
    · rw [if_neg z, nu_hi K f (by have := hf.2; omega), red_zero hφ]; grind
  · rw [hl i]
    split
    · exact hVb i
    · show 2 * nz 0 < _
      unfold nz; omega
end MCls6
