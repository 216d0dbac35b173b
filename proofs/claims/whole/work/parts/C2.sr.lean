/-! the law's invariant: class and reference hold the same -/
section MSR
def SR (M : MI) : Prop := ok M ∧ (∀ k, k < 20 → M.2 37 k = PB k) ∧ (∃ g : Nat, g ≤ 80 ∧ M.2 0 1 = g ∧ M.2 36 2 = g) ∧ (∀ p j, p < 80 → j < 11 → M.2 (49 + p) j = M.2 38 (11 * p + j) ∧ nz (M.2 (49 + p) j) ≤ 9999) ∧ ∃ k : Nat, k ≤ 10 ∧ M.2 0 4 = k ∧ M.2 36 4 = k ∧ ∀ i, i < k → M.2 8 i = M.2 39 i ∧ M.2 9 i = M.2 40 i
def mdl (M M2 : MI) : Prop := ∀ k i, 36 ≤ k → k ≤ 48 → M2.2 k i = M.2 k i
theorem mdl_refl (M : MI) : mdl M M := fun _ _ _ _ => rfl
theorem mdl_ko7 {M M2 : MI} (h : ko7 M M2) : mdl M M2 := fun k i a b => (h k i a b).2
theorem mdl_out {M M2 : MI} (h : ko7 M M2) (r : Int) : mdl M (oJ M2 48 0 r) := fun k i a b => (h k i a b).2
theorem SR_bd7 {M : MI} (h : SR M) : bd7 M := fun p j hp hj => (h.2.2.2.1 p j hp hj).2
theorem SR_bd8 {M M2 : MI} (h : SR M) (hm : mdl M M2) : bd8 M2 := fun p j hp hj => by
  rw [hm 38 _ (by omega) (by omega), ← (h.2.2.2.1 p j hp hj).1]; exact (h.2.2.2.1 p j hp hj).2
theorem SR_pb {M M2 : MI} (h : SR M) (hm : mdl M M2) : ∀ k, k < 20 → M2.2 37 k = PB k := fun k hk => (hm 37 k (by omega) (by omega)).trans (h.2.1 k hk)
theorem SR_po {S : Type} [Lean.Grind.CommRing S] {co : S → Nat → Int} (P : isPol co) {M M2 : MI} (h : SR M) (hm : mdl M M2) {p : Nat} (hp : p < 80) : po8 P M2 p = po7 P M p := cpo_congr P (fun j hj => by
  show M2.2 38 (11 * p + j) = M.2 (49 + p) j
  rw [hm 38 _ (by omega) (by omega)]; exact (h.2.2.2.1 p j hp hj).1.symm)
theorem SR_sm {M M2 M' : MI} (h : SR M) (hm : mdl M M2) (h7 : sm7 M M2) (hk : ko M2 M') (hok : ok M') (h8 : sm8 M2 M') : SR M' := by
  obtain ⟨hM, hpb, ⟨g, hg, g7, g8⟩, hr, k, hk10, k7, k8, hf⟩ := id h
  obtain ⟨a1, a2, a3, a4, a5⟩ := h7
  obtain ⟨b1, b2, b3, b4, b5⟩ := h8
  refine ⟨hok, fun k hk9 => ?_, ⟨g, hg, ?_, ?_⟩, fun p j hp hj => ?_, k, hk10, ?_, ?_, fun i hi => ⟨?_, ?_⟩⟩
  · rw [hk.2 37 k (by omega)]; exact SR_pb h hm k hk9
  · rw [hk.2 0 1 (by omega), a4]; exact g7
  · rw [b4, hm 36 2 (by omega) (by omega)]; exact g8
  · rw [hk.2 (49 + p) j (by omega), a1 p j hp, b1, hm 38 _ (by omega) (by omega)]; exact hr p j hp hj
  · rw [hk.2 0 4 (by omega), a5]; exact k7
  · rw [b5, hm 36 4 (by omega) (by omega)]; exact k8
  · rw [hk.2 8 i (by omega), a2, b2, hm 39 i (by omega) (by omega)]; exact (hf i hi).1
  · rw [hk.2 9 i (by omega), a3, b3, hm 40 i (by omega) (by omega)]; exact (hf i hi).2
theorem SR_app {M M2 M' : MI} {v : Nat → Int} (h : SR M) (hm : mdl M M2) (h7 : app7 M M2 v) (hk : ko M2 M') (hok : ok M') (h8 : app8 M2 M' v) (hv : ∀ j, j < 11 → nz (v j) ≤ 9999) (hlt : M.2 0 1 < 80) : SR M' := by
  obtain ⟨hM, hpb, ⟨g, hg, g7, g8⟩, hr, k, hk10, k7, k8, hf⟩ := id h
  obtain ⟨a1, a2, a3, a4, a5⟩ := h7
  obtain ⟨b1, b2, b3, b4, b5⟩ := h8
  have g2 : M2.2 36 2 = g := by rw [hm 36 2 (by omega) (by omega)]; exact g8
  refine ⟨hok, fun k hk9 => ?_, ⟨g + 1, by omega, ?_, ?_⟩, fun p j hp hj => ?_, k, hk10, ?_, ?_, fun i hi => ⟨?_, ?_⟩⟩
  · rw [hk.2 37 k (by omega)]; exact SR_pb h hm k hk9
  · rw [hk.2 0 1 (by omega), a1]; omega
  · rw [b1, g2]; omega
  · rw [hk.2 (49 + p) j (by omega), a2 p j hp hj, b2 p j hj, g2, g7, hm 38 _ (by omega) (by omega)]
    by_cases z : (p : Int) = (g : Int)
    · rw [if_pos z, if_pos z]; exact ⟨rfl, hv j hj⟩
    · rw [if_neg z, if_neg z]; exact hr p j hp hj
  · rw [hk.2 0 4 (by omega), a5]; exact k7
  · rw [b5, hm 36 4 (by omega) (by omega)]; exact k8
  · rw [hk.2 8 i (by omega), a3, b3, hm 39 i (by omega) (by omega)]; exact (hf i hi).1
  · rw [hk.2 9 i (by omega), a4, b4, hm 40 i (by omega) (by omega)]; exact (hf i hi).2
theorem SR_kept {S : Type} [Lean.Grind.CommRing S] {co : S → Nat → Int} {M M2 M' : MI} {g k : Nat} {fo fo' : Nat → S} {es es' : Nat → Nat} (h : SR M) (hm : mdl M M2) (h7 : kept7 co M M2 g k fo es) (hk : ko M2 M') (hok : ok M') (h8 : kept co M2 M' g k fo' es') (he : ∀ i, i < k → fo i = fo' i ∧ es i = es' i) (hs : ∀ i, i < k → sml co (fo i)) (hgk : g + k ≤ 80) (hk10 : k ≤ 10) : SR M' := by
  obtain ⟨hM, hpb, -, hr, -⟩ := id h
  obtain ⟨a1, a2, a3, a4, a5⟩ := h7
  obtain ⟨b1, b2, b3, b4, b5⟩ := h8
  refine ⟨hok, fun k hk9 => ?_, ⟨g + k, hgk, ?_, b1⟩, fun p j hp hj => ?_, k, hk10, ?_, b2, fun i hi => ⟨?_, ?_⟩⟩
  · rw [hk.2 37 k (by omega)]; exact SR_pb h hm k hk9
  · rw [hk.2 0 1 (by omega)]; exact a1
  · rw [hk.2 (49 + p) j (by omega), a3 p j hp hj, b3 p j hj, hm 38 _ (by omega) (by omega)]
    by_cases z : g ≤ p ∧ p < g + k
    · rw [if_pos z, if_pos z, (he (p - g) (by omega)).1]
      refine ⟨rfl, ?_⟩
      rw [← (he (p - g) (by omega)).1]
      exact (hs (p - g) (by omega)).2 j
    · rw [if_neg z, if_neg z]; exact hr p j hp hj
  · rw [hk.2 0 4 (by omega)]; exact a2
  · rw [hk.2 8 i (by omega), a4, b4, if_pos hi, if_pos hi]
  · rw [hk.2 9 i (by omega), a5, b5, if_pos hi, if_pos hi, (he i hi).2]
theorem SR_0 : SR M0 := by
  have hp : ∀ i, PB i ≤ 471 := fun i => by
    rcases Nat.lt_or_ge i 20 with z | z
    · have : ∀ x : Fin 20, PB x.1 ≤ 471 := by decide
      exact this ⟨i, z⟩
    · have e : PB i = 0 := by
        unfold PB
        (rw [List.getD_eq_getElem?_getD, List.getElem?_eq_none (by simpa using z)]) <;> rfl
      omega
  have h1 : ∀ k i, M0.1 k i = if k = 1 ∧ i = 0 then 2 else 0 := fun _ _ => rfl
  have h2 : ∀ k i, M0.2 k i = if k = 37 then (PB i : Int) else 0 := fun _ _ => rfl
  refine ⟨⟨fun k i => ?_, fun k i => ?_⟩, fun k hk => ?_, ⟨0, by omega, ?_, ?_⟩, fun p j hp hj => ?_, 0, by omega, ?_, ?_, fun i hi => absurd hi (by omega)⟩
  · rw [h1]; split <;> omega
  · rw [h2]
    have := hp i
    split <;> omega
  · rw [h2, if_pos rfl]
  · rw [h2, if_neg (by omega)]; rfl
  · rw [h2, if_neg (by omega)]; rfl
  · rw [h2, h2, if_neg (by omega), if_neg (by omega)]; exact ⟨rfl, by decide⟩
  · rw [h2, if_neg (by omega)]; rfl
  · rw [h2, if_neg (by omega)]; rfl
/-- the shape of the law's cases -/
def lcG (X : Option (Int × MI)) (Y : MI → Option (Int × MI)) : Option MI :=
  Option.bind X fun (v1, M2) =>
  Option.bind (Y M2) fun (v3, M4) =>
  Option.bind (f_X8_thrown M4) fun v5 =>
  Option.bind (gI v5 v1) fun _ =>
  if v5 = v1 then
    Option.bind (gI v1 0) fun _ =>
    if v1 = 0 then
      Option.bind (odJ M4 48 (0)) fun v6 =>
      Option.bind (gI v3 0) fun _ =>
      Option.bind (gJ v6 v3) fun _ =>
      if v6 = v3 then
        some M4
      else
        none
    else
      some M4
  else
    none
def lcB (X : Option (Int × MI)) (Y : MI → Option (Int × MI)) : Option MI :=
  Option.bind X fun (v1, M2) =>
  Option.bind (Y M2) fun (v3, M4) =>
  Option.bind (f_X8_thrown M4) fun v5 =>
  Option.bind (gI v5 v1) fun _ =>
  if v5 = v1 then
    Option.bind (gI v1 0) fun _ =>
    if v1 = 0 then
      Option.bind (odJ M4 48 (0)) fun v6 =>
      Option.bind (
        Option.bind (gI v3 0) fun _ =>
        if v3 = 0 then
          some (0)
        else
          some (1)) fun v7 =>
      Option.bind (gJ v6 v7) fun _ =>
      if v6 = v7 then
        some M4
      else
        none
    else
      some M4
  else
    none
theorem lcG_t {X : Option (Int × MI)} {Y : MI → Option (Int × MI)} {M2 M4 : MI} {c v : Int} (hX : X = some (c, M2)) (hc : 1 ≤ c ∧ c ≤ 3) (hY : Y M2 = some (v, M4)) (h3 : M4.2 36 3 = c) : lcG X Y = some M4 := by
  unfold lcG f_X8_thrown
  rw [hX, bs]
  dsimp only
  rw [hY, bs]
  dsimp only
  rw [bs, h3, gI_s (by omega) (by omega), bs, if_pos rfl, gI_s (by omega) (by omega), bs, if_neg (by omega)]
theorem lcG_a {X : Option (Int × MI)} {Y : MI → Option (Int × MI)} {M2 M4 : MI} {r : Int} (hX : X = some (0, M2)) (hY : Y M2 = some (r, M4)) (h3 : M4.2 36 3 = 0) (hr : inI r) (h48 : M4.1 48 0 = r) : lcG X Y = some M4 := by
  have e : odJ M4 48 0 = some r := by
    have q := odJ_n (M := M4) (k := 48) (i := 0) 0 rfl rfl (by decide)
    rw [q, h48]
  unfold lcG f_X8_thrown
  rw [hX, bs]
  dsimp only
  rw [hY, bs]
  dsimp only
  rw [bs, h3, gI_s (by omega) (by omega), bs, if_pos rfl, bs, if_pos rfl, e, bs, gI_s hr (by omega), bs, gJ_s (by omega) (by omega), bs, if_pos rfl]
theorem lcB_t {X : Option (Int × MI)} {Y : MI → Option (Int × MI)} {M2 M4 : MI} {c v : Int} (hX : X = some (c, M2)) (hc : 1 ≤ c ∧ c ≤ 3) (hY : Y M2 = some (v, M4)) (h3 : M4.2 36 3 = c) : lcB X Y = some M4 := by
  unfold lcB f_X8_thrown
  rw [hX, bs]
  dsimp only
  rw [hY, bs]
  dsimp only
  rw [bs, h3, gI_s (by omega) (by omega), bs, if_pos rfl, gI_s (by omega) (by omega), bs, if_neg (by omega)]
theorem lcB_a {X : Option (Int × MI)} {Y : MI → Option (Int × MI)} {M2 M4 : MI} {r : Int} (hX : X = some (0, M2)) (hY : Y M2 = some (r, M4)) (h3 : M4.2 36 3 = 0) (hr : r = 0 ∨ r = 1) (h48 : M4.1 48 0 = r) : lcB X Y = some M4 := by
  have e : odJ M4 48 0 = some r := by
    have q := odJ_n (M := M4) (k := 48) (i := 0) 0 rfl rfl (by decide)
    rw [q, h48]
  have e2 : (if r = 0 then some (0 : Int) else some 1) = some r := by
    rcases hr with z | z <;> rw [z] <;> rfl
  unfold lcB f_X8_thrown
  rw [hX, bs]
  dsimp only
  rw [hY, bs]
  dsimp only
  rw [bs, h3, gI_s (by omega) (by omega), bs, if_pos rfl, bs, if_pos rfl, e, bs, gI_s (by omega) (by omega), bs, e2, bs, gJ_s (by omega) (by omega), bs, if_pos rfl]
theorem out_s (M : MI) (r : Int) : osJ M 48 0 r = some (oJ M 48 0 r) := osJ_n (k := 48) 0 rfl rfl (by decide)
theorem out_1 (M : MI) (r : Int) : (oJ M 48 0 r).1 48 0 = r := by rw [oJ_1, if_pos ⟨rfl, rfl⟩]
theorem ok_out {M : MI} (h : ok M) {r : Int} (hr : inI r) : ok (oJ M 48 0 r) := ok_oJ h (by omega)
theorem ko_48 {M M' : MI} (h : ko M M') : M'.1 48 0 = M.1 48 0 := h.1 48 0 (by omega) (by omega)

end MSR
