/-! the class's splitter: columns cleared, fixed rows -/
section MCls8
def mxM (M : MI) (F : Nat → Nat → Int) : MI := (fun k i => if 139 ≤ k ∧ k < 149 then F (k - 139) i else M.1 k i, M.2)
theorem mx_at (M : MI) (F : Nat → Nat → Int) {i j : Nat} (hi : i < 10) : (mxM M F).1 (139 + i) j = F i j := by
  unfold mxM; dsimp only
  rw [if_pos (by omega), show 139 + i - 139 = i by omega]
theorem mx_o (M : MI) (F : Nat → Nat → Int) {k : Nat} (hk : ¬ (139 ≤ k ∧ k < 149)) (j : Nat) : (mxM M F).1 k j = M.1 k j := if_neg hk
theorem mx_id (M : MI) : mxM M (fun i j => M.1 (139 + i) j) = M := Prod.ext (funext fun k => funext fun i => by
  unfold mxM; dsimp only
  by_cases z : 139 ≤ k ∧ k < 149
  · rw [if_pos z, show 139 + (k - 139) = k by omega]
  · rw [if_neg z]) rfl
theorem mx_s (M : MI) (F : Nat → Nat → Int) {i : Nat} (hi : i < 10) (j : Nat) (v : Int) : oJ (mxM M F) (139 + i) j v = mxM M (fun a b => if a = i ∧ b = j then v else F a b) := Prod.ext (funext fun k => funext fun b => by
  rw [oJ_1]
  by_cases z : 139 ≤ k ∧ k < 149
  · unfold mxM; dsimp only
    rw [if_pos z, if_pos z]
    by_cases y : k = 139 + i ∧ b = j
    · rw [if_pos y, if_pos (by omega)]
    · rw [if_neg y, if_neg (by omega)]
  · rw [if_neg (by omega), mx_o M F z, mx_o M _ z]) rfl
theorem ok_mx {M : MI} (h : ok M) {F : Nat → Nat → Int} (hF : ∀ i j, i < 10 → inJ (F i j)) : ok (mxM M F) := ⟨fun k i => by
  unfold mxM; dsimp only
  split
  · exact hF _ _ (by omega)
  · exact h.1 k i, h.2⟩
theorem ch_mx (M : MI) (F : Nat → Nat → Int) : chJ [139, 140, 141, 142, 143, 144, 145, 146, 147, 148] M (mxM M F) := ⟨rfl, fun k i hk => by
  refine mx_o M F ?_ i
  simp at hk
  omega⟩
theorem c_clearRow {R : Type} [Lean.Grind.CommRing R] {p : Nat} (hp : isZp R p) {φ : Int → R} (hφ : isRed φ p) (hp2 : p ≤ 100000000) {M : MI} (hM : ok M) (hmp : M.1 1 0 = p) {m r c : Nat} (hm : m ≤ 10) (hr : r < m) (hc : c < m) (hX : MXr p m M) (hne : φ (M.1 (139 + r) c) ≠ 0) (hup : ∀ i, i < r → φ (M.1 (139 + i) c) = 0) {n : Nat} (hn : 18446744073709551616 ≤ n) :
    ∃ (M' : MI) (s : R), f_X6_clearRow n r c m M = some M' ∧ ok M' ∧ chJ [139, 140, 141, 142, 143, 144, 145, 146, 147, 148] M M' ∧ MXr p m M' ∧ φ (M.1 (139 + r) c) * s = -1 ∧ (∀ i, i < m → φ (M'.1 (139 + i) c) = φ (M.1 (139 + i) c) * s) ∧ (∀ i j, i < m → j < m → j ≠ c → φ (M'.1 (139 + i) j) = φ (M.1 (139 + i) j) + φ (M.1 (139 + r) j) * (φ (M.1 (139 + i) c) * s)) ∧ (∀ i, i < r → ∀ j, M'.1 (139 + i) j = M.1 (139 + i) j) := by
  have hp1 := hp.1.1
  have hF := hp.2.2.1
  have rw' : ∀ i, i < 10 → row (139 + i) := fun i hi => row_i (by omega)
  obtain ⟨h1, h2⟩ := hX r c hr (by omega)
  obtain ⟨w, ew, hw0, hwp, hinv⟩ := c_inv hp hφ hmp hp2 h1 h2 hne hn
  have e1 : odJ M (139 + r) (c : Int) = some (M.1 (139 + r) c) := odJ_n c (rw' r (by omega)).1 rfl (by rw [(rw' r (by omega)).2]; omega)
  obtain ⟨s, hs⟩ : ∃ s : Int, s = (p : Int) - w := ⟨_, rfl⟩
  have hsφ : φ s = - φ w := by rw [hs, red_sub hφ, (hφ.2.2.1 (p : Int)).mpr ⟨1, by omega⟩]; grind
  obtain ⟨F, hFd⟩ : ∃ F : Nat → Nat → Int, F = fun i j => M.1 (139 + i) j := ⟨_, rfl⟩
  have hMF : M = mxM M F := by rw [hFd, mx_id]
  have hFr : ∀ i j, i < m → j < 11 → 0 ≤ F i j ∧ F i j < p := fun i j hi hj => by rw [hFd]; exact hX i j hi hj
  have hFJ : ∀ i j, inJ (F i j) := fun i j => by rw [hFd]; exact hM.1 _ _
  -- the pivot's column
  obtain ⟨F1, hF1⟩ : ∃ F1 : Nat → Nat → Nat → Int, F1 = fun k a b => if r ≤ a ∧ a < r + k ∧ b = c then F a b * s % p else F a b := ⟨_, rfl⟩
  have hL1 : lpF (l_X6_clearRow_32 c m p s) n (M, (r : Int)) = some (mxM M (F1 (m - r))) := by
    have e := lp_for (step := l_X6_clearRow_32 c m p s) (fun k => (mxM M (F1 k), ((r + k : Nat) : Int))) (mxM M (F1 (m - r))) (m - r) n (fun k hk => by
      have q1 : (mxM M (F1 k)).1 (139 + (r + k)) c = F (r + k) c := by rw [mx_at M _ (by omega), hF1]; dsimp only; rw [if_neg (by omega)]
      obtain ⟨x1, x2⟩ := hFr (r + k) c (by omega) (by omega)
      have hb0 : 0 ≤ F (r + k) c * s := Int.mul_nonneg x1 (by omega)
      have hb1 : F (r + k) c * s ≤ 100000000 * 100000000 := Int.mul_le_mul (by omega) (by omega) (by omega) (by omega)
      have eo : orJ (F (r + k) c * s) p = some (F (r + k) c * s % p) := by
        unfold orJ
        rw [if_pos ⟨by omega, by omega, by omega, by omega⟩, tmod_nn hb0]
      have ri := rw' (r + k) (by omega)
      unfold l_X6_clearRow_32
      dsimp only
      rw [gI_s (by omega) (by omega), bs, if_neg (by omega), oA21 rfl (by omega), bs, bs, odJ_n c ri.1 rfl (by rw [ri.2]; omega), bs, q1, eo, bs, osJ_n c ri.1 rfl (by rw [ri.2]; omega), bs, mx_s M _ (by omega)]
      have eF : (fun a b => if a = r + k ∧ b = c then F (r + k) c * s % p else F1 k a b) = F1 (k + 1) := by
        funext a b
        rw [hF1]; dsimp only
        by_cases z : a = r + k ∧ b = c
        · rw [if_pos z, if_pos (by omega), z.1, z.2]
        · rw [if_neg z]
          by_cases y : r ≤ a ∧ a < r + k ∧ b = c
          · rw [if_pos y, if_pos (by omega)]
          · rw [if_neg y, if_neg (by omega)]
      rw [eF]
      rfl) (by
      unfold l_X6_clearRow_32
      dsimp only
      rw [gI_s (by omega) (by omega), bs, if_pos (by omega)]) (by omega)
    have e0 : mxM M (F1 0) = M := by
      have : F1 0 = F := by
        rw [hF1]
        funext a b
        dsimp only
        rw [if_neg (by omega)]
      rw [this, ← hMF]
    rw [e0] at e
    exact e
  obtain ⟨G, hG⟩ : ∃ G : Nat → Nat → Int, G = F1 (m - r) := ⟨_, rfl⟩
  have hGv : ∀ a b, a < m → G a b = if r ≤ a ∧ b = c then F a b * s % p else F a b := fun a b ha => by
    rw [hG, hF1]; dsimp only
    by_cases z : r ≤ a ∧ b = c
    · rw [if_pos z, if_pos (by omega)]
    · rw [if_neg z, if_neg (by omega)]
  have hGo : ∀ a b, ¬ (r ≤ a ∧ a < m) → G a b = F a b := fun a b ha => by
    rw [hG, hF1]; dsimp only
    rw [if_neg (by omega)]
  have hGr : ∀ a b, a < m → b < 11 → 0 ≤ G a b ∧ G a b < p := fun a b ha hb => by
    rw [hGv a b ha]
    split
    · exact ⟨Int.emod_nonneg _ (by omega), Int.emod_lt_of_pos _ (by omega)⟩
    · exact hFr a b ha hb
  have hGJ : ∀ a b, inJ (G a b) := fun a b => by
    by_cases z : r ≤ a ∧ a < m
    · rw [hGv a b z.2]
      split
      · have h5 := Int.emod_nonneg (F a b * s) (show (p : Int) ≠ 0 by omega)
        have h6 := Int.emod_lt_of_pos (F a b * s) (show (0 : Int) < p by omega)
        omega
      · exact hFJ a b
    · rw [hGo a b z]; exact hFJ a b
  rw [← hG] at hL1
  -- one column
  have hcolumn : ∀ (H : Nat → Nat → Int) (j : Nat), j < m → (∀ a b, a < m → b < 11 → 0 ≤ H a b ∧ H a b < p) → lpF (l_X6_clearRow_91 c m j p (H r j)) n (mxM M H, (r : Int)) = some (mxM M (fun a b => if r ≤ a ∧ a < m ∧ b = j ∧ j ≠ c then (H a b + H r j * H a c) % p else H a b)) := fun H j hj hH => by
    by_cases hz : H r j = 0 ∨ j = c
    · have e : mxM M (fun a b => if r ≤ a ∧ a < m ∧ b = j ∧ j ≠ c then (H a b + H r j * H a c) % p else H a b) = mxM M H := by
        congr 1
        funext a b
        by_cases z : r ≤ a ∧ a < m ∧ b = j ∧ j ≠ c
        · rw [if_pos z]
          have h0 : H r j = 0 := by
            rcases hz with y | y
            · exact y
            · exact absurd y z.2.2.2
          obtain ⟨x1, x2⟩ := hH a b z.2.1 (by omega)
          rw [h0, Int.zero_mul, Int.add_zero, Int.emod_eq_of_lt x1 x2]
        · rw [if_neg z]
      rw [e]
      refine lp_for (fun _ => (mxM M H, (r : Int))) _ 0 n (fun k hk => absurd hk (by omega)) ?_ (by omega)
      obtain ⟨x1, x2⟩ := hH r j hr (by omega)
      unfold l_X6_clearRow_91
      dsimp only
      rw [gI_s (by omega) (by omega), bs, if_neg (by omega), gJ_s (by omega) (by omega), bs]
      by_cases y : H r j = 0
      · rw [if_pos y]
      · rw [if_neg y, gI_s (by omega) (by omega), bs, if_pos (by omega)]
    · obtain ⟨H1, hH1⟩ : ∃ H1 : Nat → Nat → Nat → Int, H1 = fun k a b => if r ≤ a ∧ a < r + k ∧ b = j then (H a b + H r j * H a c) % p else H a b := ⟨_, rfl⟩
      have hjc : j ≠ c := fun y => hz (Or.inr y)
      have hq0 : H r j ≠ 0 := fun y => hz (Or.inl y)
      obtain ⟨y1, y2⟩ := hH r j hr (by omega)
      have e := lp_for (step := l_X6_clearRow_91 c m j p (H r j)) (fun k => (mxM M (H1 k), ((r + k : Nat) : Int))) (mxM M (H1 (m - r))) (m - r) n (fun k hk => by
        have q1 : (mxM M (H1 k)).1 (139 + (r + k)) j = H (r + k) j := by rw [mx_at M _ (by omega), hH1]; dsimp only; rw [if_neg (by omega)]
        have q2 : (mxM M (H1 k)).1 (139 + (r + k)) c = H (r + k) c := by rw [mx_at M _ (by omega), hH1]; dsimp only; rw [if_neg (by omega)]
        obtain ⟨x1, x2⟩ := hH (r + k) j (by omega) (by omega)
        obtain ⟨z1, z2⟩ := hH (r + k) c (by omega) (by omega)
        have hb0 : 0 ≤ H r j * H (r + k) c := Int.mul_nonneg y1 z1
        have hb1 : H r j * H (r + k) c ≤ 100000000 * 100000000 := Int.mul_le_mul (by omega) (by omega) (by omega) (by omega)
        have eo : orJ (H (r + k) j + H r j * H (r + k) c) p = some ((H (r + k) j + H r j * H (r + k) c) % p) := by
          unfold orJ
          rw [if_pos ⟨by omega, by omega, by omega, by omega⟩, tmod_nn (by omega)]
        have ri := rw' (r + k) (by omega)
        unfold l_X6_clearRow_91
        dsimp only
        rw [gI_s (by omega) (by omega), bs, if_neg (by omega), gJ_s (by omega) (by omega), bs, if_neg hq0, gI_s (by omega) (by omega), bs, if_neg (by omega), oA21 rfl (by omega), bs, bs, odJ_n j ri.1 rfl (by rw [ri.2]; omega), bs, bs, odJ_n c ri.1 rfl (by rw [ri.2]; omega), bs, q1, q2, eo, bs, osJ_n j ri.1 rfl (by rw [ri.2]; omega), bs, mx_s M _ (by omega)]
        have eF : (fun a b => if a = r + k ∧ b = j then (H (r + k) j + H r j * H (r + k) c) % p else H1 k a b) = H1 (k + 1) := by
          funext a b
          rw [hH1]; dsimp only
          by_cases z : a = r + k ∧ b = j
          · rw [if_pos z, if_pos (by omega), z.1, z.2]
          · rw [if_neg z]
            by_cases y : r ≤ a ∧ a < r + k ∧ b = j
            · rw [if_pos y, if_pos (by omega)]
            · rw [if_neg y, if_neg (by omega)]
        rw [eF]
        rfl) (by
        unfold l_X6_clearRow_91
        dsimp only
        rw [gI_s (by omega) (by omega), bs, if_pos (by omega)]) (by omega)
      have e0 : mxM M (H1 0) = mxM M H := by
        congr 1
        rw [hH1]; funext a b; dsimp only
        rw [if_neg (by omega)]
      rw [e0] at e
      rw [show ((r + 0 : Nat) : Int) = (r : Int) by omega] at e
      rw [e]
      refine congrArg (fun z => some (mxM M z)) (funext fun a => funext fun b => ?_)
      rw [hH1]; dsimp only
      by_cases z : r ≤ a ∧ a < m ∧ b = j ∧ j ≠ c
      · rw [if_pos z, if_pos (by omega)]
      · rw [if_neg z, if_neg (by omega)]
  -- all columns
  obtain ⟨G1, hG1⟩ : ∃ G1 : Nat → Nat → Nat → Int, G1 = fun J a b => if r ≤ a ∧ a < m ∧ b < J ∧ b ≠ c then (G a b + G r b * G a c) % p else G a b := ⟨_, rfl⟩
  have hG1r : ∀ J a b, a < m → b < 11 → 0 ≤ G1 J a b ∧ G1 J a b < p := fun J a b ha hb => by
    rw [hG1]; dsimp only
    split
    · exact ⟨Int.emod_nonneg _ (by omega), Int.emod_lt_of_pos _ (by omega)⟩
    · exact hGr a b ha hb
  have hL2 : lpF (l_X6_clearRow_71 n r c m p) n (mxM M G, 0) = some (mxM M (G1 m)) := by
    have e := lp_for (step := l_X6_clearRow_71 n r c m p) (fun J => (mxM M (G1 J), (J : Int))) (mxM M (G1 m)) m n (fun J hJ => by
      have q1 : (mxM M (G1 J)).1 (139 + r) J = G1 J r J := mx_at M _ (by omega)
      have hcol := hcolumn (G1 J) J hJ (hG1r J)
      have ri := rw' r (by omega)
      unfold l_X6_clearRow_71
      dsimp only
      rw [gI_s (by omega) (by omega), bs, if_neg (by omega), oA21 rfl (by omega), bs, odJ_n J ri.1 rfl (by rw [ri.2]; omega), bs, q1, hcol, bs]
      have eF : (fun a b => if r ≤ a ∧ a < m ∧ b = J ∧ J ≠ c then (G1 J a b + G1 J r J * G1 J a c) % p else G1 J a b) = G1 (J + 1) := by
        funext a b
        have g1 : ∀ a b, G1 J a b = if r ≤ a ∧ a < m ∧ b < J ∧ b ≠ c then (G a b + G r b * G a c) % p else G a b := fun a b => by rw [hG1]
        have g2 : G1 (J + 1) a b = if r ≤ a ∧ a < m ∧ b < J + 1 ∧ b ≠ c then (G a b + G r b * G a c) % p else G a b := by rw [hG1]
        rw [g2]
        by_cases z : r ≤ a ∧ a < m ∧ b = J ∧ J ≠ c
        · rw [if_pos z, if_pos (by omega), g1 a b, if_neg (by omega), g1 r J, if_neg (by omega), g1 a c, if_neg (by omega), z.2.2.1]
        · rw [if_neg z, g1 a b]
          by_cases y : r ≤ a ∧ a < m ∧ b < J ∧ b ≠ c
          · rw [if_pos y, if_pos (by omega)]
          · rw [if_neg y, if_neg (by omega)]
      rw [eF]
      rfl) (by
      unfold l_X6_clearRow_71
      dsimp only
      rw [gI_s (by omega) (by omega), bs, if_pos (by omega)]) (by omega)
    have e0 : mxM M (G1 0) = mxM M G := by
      congr 1
      rw [hG1]; funext a b; dsimp only
      rw [if_neg (by omega)]
    rw [e0] at e
    exact e
  have hfin : ∀ a b, a < m → (mxM M (G1 m)).1 (139 + a) b = if r ≤ a ∧ b < m ∧ b ≠ c then (G a b + G r b * G a c) % p else G a b := fun a b ha => by
    rw [mx_at M _ (by omega), hG1]; dsimp only
    by_cases z : r ≤ a ∧ b < m ∧ b ≠ c
    · rw [if_pos z, if_pos (by omega)]
    · rw [if_neg z, if_neg (by omega)]
  have hFM : ∀ i j, F i j = M.1 (139 + i) j := fun i j => by rw [hFd]
  have hGc : ∀ i, i < m → φ (G i c) = φ (M.1 (139 + i) c) * φ s := fun i hi => by
    rw [hGv i c hi, hFM]
    by_cases z : r ≤ i
    · rw [if_pos ⟨z, rfl⟩, red_md hφ, hφ.2.1]
    · rw [if_neg (fun y => z y.1), hup i (by omega)]; grind
  have hGj : ∀ i j, i < m → j ≠ c → G i j = M.1 (139 + i) j := fun i j hi hj => by
    rw [hGv i j hi, if_neg (fun y => hj y.2), hFM]
  refine ⟨mxM M (G1 m), φ s, ?_, ok_mx hM (fun i j _ => ?_), ch_mx M _, fun i j hi hj => ?_, by rw [hsφ, show φ (M.1 (139 + r) c) * -φ w = -(φ (M.1 (139 + r) c) * φ w) by grind, hinv], fun i hi => ?_, fun i j hi hj hne => ?_, fun i hi j => ?_⟩
  · unfold f_X6_clearRow
    rw [oA21 rfl (by omega), bs, e1, bs, ew, bs, hmp, ← hs, hL1, bs, hL2, bs]
  · rw [hG1]; dsimp only
    split
    · have h5 := Int.emod_nonneg (G i j + G r j * G i c) (show (p : Int) ≠ 0 by omega)
      have h6 := Int.emod_lt_of_pos (G i j + G r j * G i c) (show (0 : Int) < p by omega)
      omega
    · exact hGJ i j
  · rw [mx_at M _ (by omega)]; exact hG1r m i j hi hj
  · rw [hfin i c hi, if_neg (fun y => y.2.2 rfl)]; exact hGc i hi
  · rw [hfin i j hi]
    by_cases z : r ≤ i
    · rw [if_pos ⟨z, hj, hne⟩, red_md hφ, hφ.1, hφ.2.1, hGc i hi, hGj i j hi hne, hGj r j hr hne]
    · rw [if_neg (fun y => z y.1), hGj i j hi hne, hup i (by omega)]; grind
  · rw [hfin i j (by omega), if_neg (by omega), hGo i j (by omega), hFM]
theorem c_addFixed {R : Type} [Lean.Grind.CommRing R] {p : Nat} (hp : isZp R p) {φ : Int → R} (hφ : isRed φ p) {M : MI} (hM : ok M) {m r fc : Nat} (hm : m ≤ 10) (hr : r < m) (hfc : M.2 4 2 = fc) (hfc10 : fc < 10) (hX : MXr p m M) (hpv : ∀ c, c < m → 0 ≤ M.2 23 c → M.2 23 c < r) (hinj : ∀ c d, c < m → d < m → 0 ≤ M.2 23 c → M.2 23 c = M.2 23 d → c = d) {n : Nat} (hn : 18446744073709551616 ≤ n) :
    ∃ M', f_X6_addFixed n r m M = some M' ∧ ok M' ∧ (∀ k i, k ≠ 149 + fc → M'.1 k i = M.1 k i) ∧ (∀ k i, ¬ (k = 4 ∧ i = 2) → M'.2 k i = M.2 k i) ∧ M'.2 4 2 = ((fc + 1 : Nat) : Int) ∧ ∀ i, i < 11 → 0 ≤ M'.1 (149 + fc) i ∧ M'.1 (149 + fc) i < p ∧ φ (M'.1 (149 + fc) i) = if i < m then Wv m (fun a b => φ (M.1 (139 + a) b)) (fun c => M.2 23 c) r i else 0 := by
  have hp1 := hp.1.1
  have hF := hp.2.2.1
  have rf : row (149 + fc) := row_i (by omega)
  have rr : row (139 + r) := row_i (by omega)
  have e1 := j_fill (M := M) (a := 149 + fc) rf.1 (by rw [rf.2]; omega) 0 hn
  rw [rf.2] at e1
  obtain ⟨M3, hM3⟩ : ∃ M3, M3 = oJ (wrM M (149 + fc) 0 11 (fun _ => 0)) (149 + fc) r 1 := ⟨_, rfl⟩
  have hok3 : ok M3 := by rw [hM3]; exact ok_oJ (ok_wrM hM (fun _ _ => by omega)) (by omega)
  have hc3 : chJ [149 + fc] M M3 := by rw [hM3]; exact chJ_mono (chJ_trans (chJ_wr M (149 + fc) 0 11 _) (chJ_oJ _ (149 + fc) r 1)) (fun x hx => by simpa using hx)
  have h3v : ∀ i, i < 11 → M3.1 (149 + fc) i = if i = r then 1 else 0 := fun i hi => by
    rw [hM3, oJ_1]
    by_cases z : i = r
    · rw [if_pos ⟨rfl, z⟩, if_pos z]
    · rw [if_neg (fun y => z y.2), if_neg z, wrM_1, if_pos (by omega)]
  obtain ⟨M14, hL, hok14, hc14, hv14⟩ := lp_do (step := l_X6_addFixed_22 r m (149 + fc)) (fun st => ok st.1 ∧ chJ [149 + fc] M st.1 ∧ ∃ c : Nat, st.2 = c ∧ c ≤ m ∧ ∀ i, i < 11 → 0 ≤ st.1.1 (149 + fc) i ∧ st.1.1 (149 + fc) i < p ∧ φ (st.1.1 (149 + fc) i) = (if i = r then 1 else 0) + sm (fun d => if M.2 23 d = (i : Int) then φ (M.1 (139 + r) d) else 0) c) (fun st => (20 - st.2).toNat) (fun M' => ok M' ∧ chJ [149 + fc] M M' ∧ ∀ i, i < 11 → 0 ≤ M'.1 (149 + fc) i ∧ M'.1 (149 + fc) i < p ∧ φ (M'.1 (149 + fc) i) = (if i = r then 1 else 0) + sm (fun d => if M.2 23 d = (i : Int) then φ (M.1 (139 + r) d) else 0) m) (fun st hst => by
    obtain ⟨Ma, y⟩ := st
    obtain ⟨k1, k2, c, hy, hcm, hv⟩ := hst
    dsimp only at k1 k2 hy hv
    subst hy
    have hi := hM.2 23 c
    have ha2 : Ma.2 = M.2 := k2.1
    unfold l_X6_addFixed_22
    dsimp only
    rw [gI_s (by omega) (by omega), bs]
    by_cases hlt : (m : Int) ≤ c
    · rw [if_pos hlt]
      have e : c = m := by omega
      subst e
      exact Or.inl ⟨_, rfl, k1, k2, hv⟩
    · rw [if_neg hlt, odI_n (k := 23) c rfl rfl (show c < 10 by omega), bs, ha2, gI_s hi (by omega), bs]
      by_cases hp0 : M.2 23 c < 0
      · rw [if_pos hp0, bs]
        refine Or.inr ⟨_, rfl, ⟨k1, k2, c + 1, by dsimp only; omega, by omega, fun i hi => ?_⟩, by dsimp only; omega⟩
        obtain ⟨x1, x2, x3⟩ := hv i hi
        refine ⟨x1, x2, ?_⟩
        dsimp only
        rw [x3, sm_succ, if_neg (show ¬ M.2 23 c = (i : Int) by omega)]; grind
      · obtain ⟨q, hq⟩ : ∃ q : Nat, M.2 23 c = q := ⟨(M.2 23 c).toNat, by omega⟩
        have hqr := hpv c (by omega) (by omega)
        have q1 : Ma.1 (139 + r) c = M.1 (139 + r) c := k2.2 (139 + r) c (by simp; omega)
        obtain ⟨z1, z2⟩ := hX r c hr (by omega)
        rw [if_neg hp0, bs, oA21 rfl (by omega), bs, odJ_n c rr.1 rfl (by rw [rr.2]; omega), bs, q1, hq, osJ_n q rf.1 rfl (by rw [rf.2]; omega), bs, bs]
        refine Or.inr ⟨_, rfl, ⟨ok_oJ k1 (hM.1 _ _), chJ_mono (chJ_trans k2 (chJ_oJ _ (149 + fc) q _)) (fun x hx => by simpa using hx), c + 1, by dsimp only; omega, by omega, fun i hi => ?_⟩, by dsimp only; omega⟩
        dsimp only
        rw [oJ_1, sm_succ]
        by_cases z : i = q
        · rw [if_pos ⟨rfl, z⟩, if_neg (show ¬ i = r by omega), if_pos (show M.2 23 c = (i : Int) by omega), sm_zero (fun d hd => if_neg (fun w => by
            have := hinj c d (by omega) (by omega) (by omega) (by omega)
            omega))]
          exact ⟨z1, z2, by grind⟩
        · rw [if_neg (fun w => z w.2), if_neg (show ¬ M.2 23 c = (i : Int) by omega)]
          obtain ⟨x1, x2, x3⟩ := hv i hi
          exact ⟨x1, x2, by rw [x3]; grind⟩) n (M3, 0) ⟨hok3, hc3, 0, rfl, by omega, fun i hi => by
      dsimp only
      rw [h3v i hi]
      simp only [sm]
      by_cases z : i = r
      · rw [if_pos z, if_pos z]; exact ⟨by omega, by omega, by rw [hφ.2.2.2]; grind⟩
      · rw [if_neg z, if_neg z]; exact ⟨by omega, by omega, by rw [red_zero hφ]; grind⟩⟩ (by dsimp only; omega)
  have h14 : M14.2 4 2 = fc := by rw [hc14.1]; exact hfc
  refine ⟨oI M14 4 2 ((fc : Int) + 1), ?_, ok_oI hok14 (by omega), fun k i hk => ?_, fun k i hk => ?_, by rw [oI_2, if_pos ⟨rfl, rfl⟩]; omega, fun i hi => ?_⟩
  · unfold f_X6_addFixed opI
    rw [hfc, oA22 rfl hfc10, bs, e1, bs, osJ_n r rf.1 rfl (by rw [rf.2]; omega), bs, ← hM3, hL, bs, h14, bs]
  · rw [oI_1]; exact hc14.2 k i (by simp; omega)
  · rw [oI_2, if_neg hk, hc14.1]
  · rw [oI_1]
    obtain ⟨x1, x2, x3⟩ := hv14 i hi
    refine ⟨x1, x2, ?_⟩
    rw [x3]
    by_cases z : i < m
    · rw [if_pos z]; rfl
    · rw [if_neg z, if_neg (show ¬ i = r by omega), sm_zero (fun d hd => if_neg (fun w => by have := hpv d hd (by omega); omega))]; grind
end MCls8
