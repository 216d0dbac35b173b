/-- what a constructor of x has added to the world L0, f0: the addresses B with the entries Es -/
def kB (L0 : List Nat) (f0 : Nat → va_E) (x : Nat) (L : List Nat) (f : Nat → va_E) (B : List Nat) (Es : List va_E) : Prop :=
  B.Nodup ∧ (∀ q ∈ B, q ∈ L ∧ q ∉ L0) ∧ B.map f = Es ∧ (∀ q ∈ L0, q ∈ L) ∧ ∀ q ∈ L0, q ≠ x → f q = f0 q
theorem kB.start {L0 : List Nat} {f0 : Nat → va_E} {x : Nat} : kB L0 f0 x L0 f0 [] [] := ⟨List.nodup_nil, (fun q h => absurd h (List.not_mem_nil)), rfl, fun _ h => h, fun _ _ _ => rfl⟩
section KBR
variable {L0 : List Nat} {f0 : Nat → va_E} {x : Nat} {L : List Nat} {f : Nat → va_E} {B : List Nat} {Es : List va_E}
theorem map_up {B : List Nat} {q : Nat} {e : va_E} (h : q ∉ B) : B.map (va_up f q e) = B.map f := List.map_congr_left (fun a ha => va_up_ne _ _ (fun h9 => h (by rw [← h9]; exact ha)))
theorem kB.new (h : kB L0 f0 x L f B Es) {q : Nat} {e : va_E} (hq : q ∉ L) : kB L0 f0 x (L ++ [q]) (va_up f q e) (B ++ [q]) (Es ++ [e]) := by
  obtain ⟨h1, h2, h3, h4, h5⟩ := h
  have hqB : q ∉ B := fun z => hq (h2 q z).1
  refine ⟨?_, fun a ha => ?_, ?_, fun a ha => List.mem_append_left _ (h4 a ha), fun a ha hne => ?_⟩
  · rw [List.nodup_append]
    refine ⟨h1, List.pairwise_singleton _ _, fun a ha b hb e9 => ?_⟩
    rw [List.mem_singleton] at hb
    exact hqB (by rw [← hb, ← e9]; exact ha)
  · rcases List.mem_append.mp ha with ha | ha
    · exact ⟨List.mem_append_left _ (h2 a ha).1, (h2 a ha).2⟩
    · rw [List.mem_singleton] at ha
      subst ha
      exact ⟨List.mem_append_right _ (List.mem_singleton.mpr rfl), fun z => hq (h4 a z)⟩
  · rw [List.map_append, map_up hqB, h3, List.map_singleton, va_up_eq]
  · rw [va_up_ne _ _ (fun h9 => hq (by rw [← h9]; exact h4 a ha))]
    exact h5 a ha hne
theorem kB.put (h : kB L0 f0 x L f B Es) (hx : x ∈ L0) {e : va_E} : kB L0 f0 x L (va_up f x e) B Es := by
  obtain ⟨h1, h2, h3, h4, h5⟩ := h
  exact ⟨h1, h2, (map_up (fun z => (h2 x z).2 hx)).trans h3, h4, fun a ha hne => (va_up_ne _ _ hne).trans (h5 a ha hne)⟩
theorem kB.mem (h : kB L0 f0 x L f B Es) {i o : Nat} (ho : B[i]? = some o) : o ∈ L := (h.2.1 o (List.mem_of_getElem? ho)).1
theorem kB.nex (h : kB L0 f0 x L f B Es) (hx : x ∈ L0) {i o : Nat} (ho : B[i]? = some o) : x ≠ o := fun e => (h.2.1 o (List.mem_of_getElem? ho)).2 (by rw [← e]; exact hx)
theorem kB.get (h : kB L0 f0 x L f B Es) {i o : Nat} {e : va_E} (ho : B[i]? = some o) (he : Es[i]? = some e) : f o = e := by
  rw [← h.2.2.1, List.getElem?_map, ho] at he
  exact Option.some.inj he
theorem set_map {i o : Nat} (hn : B.Nodup) (ho : B[i]? = some o) (g : Nat → va_E) (hg : ∀ q ∈ B, q ≠ o → g q = f q) : B.map g = (B.map f).set i (g o) := by
  apply List.ext_getElem?
  intro j
  rw [List.getElem?_map, List.getElem?_set, List.length_map, List.getElem?_map]
  by_cases hij : i = j
  · subst hij
    rw [if_pos rfl, if_pos (List.getElem?_eq_some_iff.mp ho).1, ho]; rfl
  · rw [if_neg hij]
    cases hj : B[j]? with
    | none => rfl
    | some a =>
      refine congrArg some (hg a (List.mem_of_getElem? hj) (fun e => hij ?_))
      subst e
      exact (List.getElem?_inj (List.getElem?_eq_some_iff.mp ho).1 hn).mp (ho.trans hj.symm)
theorem kB.upd (h : kB L0 f0 x L f B Es) {i o : Nat} (ho : B[i]? = some o) {e : va_E} : kB L0 f0 x L (va_up f o e) B (Es.set i e) := by
  obtain ⟨h1, h2, h3, h4, h5⟩ := h
  refine ⟨h1, h2, ?_, h4, fun a ha hne => (va_up_ne _ _ (fun h9 => (h2 o (List.mem_of_getElem? ho)).2 (by rw [← h9]; exact ha))).trans (h5 a ha hne)⟩
  rw [set_map h1 ho (va_up f o e) (fun q _ hq => va_up_ne _ _ hq), h3, va_up_eq]
theorem kB.call (h : kB L0 f0 x L f B Es) {i o : Nat} {L' : List Nat} {f' : Nat → va_E} {N : List Nat} {EsN : List va_E} {e' : va_E} (ho : B[i]? = some o) (h' : kB L f o L' f' N EsN) (he : f' o = e') : kB L0 f0 x L' f' (B ++ N) (Es.set i e' ++ EsN) := by
  obtain ⟨h1, h2, h3, h4, h5⟩ := h
  obtain ⟨k1, k2, k3, k4, k5⟩ := h'
  refine ⟨?_, fun a ha => ?_, ?_, fun a ha => k4 a (h4 a ha), fun a ha hne => ?_⟩
  · rw [List.nodup_append]
    exact ⟨h1, k1, fun a ha b hb e9 => (k2 b hb).2 (by rw [← e9]; exact (h2 a ha).1)⟩
  · rcases List.mem_append.mp ha with ha | ha
    · exact ⟨k4 a (h2 a ha).1, (h2 a ha).2⟩
    · exact ⟨(k2 a ha).1, fun z => (k2 a ha).2 (h4 a z)⟩
  · rw [List.map_append, k3, set_map h1 ho f' (fun q hq hne => k5 q (h2 q hq).1 hne), h3, he]
  · rw [k5 a (h4 a ha) (fun h9 => (h2 o (List.mem_of_getElem? ho)).2 (by rw [← h9]; exact ha))]
    exact h5 a ha hne
theorem kB.mna (h : kB L0 f0 x L f B Es) {q N : Nat} {r : Nat → Nat} {e er : va_E} (hq : q ∉ L) (hr : ∀ i, i < N → r i ∉ L ∧ r i ≠ q) (hn : ((List.range N).map r).Nodup) : kB L0 f0 x (q :: (L ++ (List.range N).map r)) (va_up (vr_up f ((List.range N).map r) er) q e) (B ++ (q :: (List.range N).map r)) (Es ++ (e :: List.replicate N er)) := by
  obtain ⟨h1, h2, h3, h4, h5⟩ := h
  have hm : ∀ a, a ∈ (List.range N).map r → a ∉ L ∧ a ≠ q := fun a ha => by
    obtain ⟨i, hi, rfl⟩ := List.mem_map.mp ha
    exact hr i (List.mem_range.mp hi)
  have hqB : q ∉ B := fun z => hq (h2 q z).1
  refine ⟨?_, fun a ha => ?_, ?_, fun a ha => List.mem_cons_of_mem _ (List.mem_append_left _ (h4 a ha)), fun a ha hne => ?_⟩
  · rw [List.nodup_append]
    refine ⟨h1, List.nodup_cons.mpr ⟨fun z => (hm q z).2 rfl, hn⟩, fun a ha b hb e9 => ?_⟩
    rcases List.mem_cons.mp hb with hb | hb
    · exact hqB (by rw [← hb, ← e9]; exact ha)
    · exact (hm b hb).1 (by rw [← e9]; exact (h2 a ha).1)
  · rcases List.mem_append.mp ha with ha | ha
    · exact ⟨List.mem_cons_of_mem _ (List.mem_append_left _ (h2 a ha).1), (h2 a ha).2⟩
    · rcases List.mem_cons.mp ha with rfl | ha
      · exact ⟨List.mem_cons_self, fun z => hq (h4 a z)⟩
      · exact ⟨List.mem_cons_of_mem _ (List.mem_append_right _ ha), fun z => (hm a ha).1 (h4 a z)⟩
  · rw [List.map_append, map_up hqB, List.map_cons, va_up_eq, map_up (fun z => (hm q z).2 rfl)]
    congr 1
    · rw [← h3]
      exact List.map_congr_left (fun a ha => vr_up_ne (fun z => (hm a z).1 (h2 a ha).1))
    · congr 1
      apply List.ext_getElem (by simp)
      intro i hi1 hi2
      rw [List.getElem_map, List.getElem_replicate]
      exact vr_up_in (List.getElem_mem _)
  · rw [va_up_ne _ _ (fun h9 => hq (by rw [← h9]; exact h4 a ha)), vr_up_ne (fun z => (hm a z).1 (h4 a ha))]
    exact h5 a ha hne
theorem idx_last {α : Type} {B : List α} {o : α} : (B ++ [o])[B.length]? = some o := by rw [List.getElem?_append_right (Nat.le_refl _), Nat.sub_self]; rfl
theorem set_last {α : Type} {B : List α} {o e : α} {k : Nat} (hk : k = B.length) : (B ++ [o]).set k e = B ++ [e] := by subst hk; rw [List.set_append_right _ _ (Nat.le_refl _), Nat.sub_self]; rfl
theorem kB.len (h : kB L0 f0 x L f B Es) : B.length = Es.length := by rw [← h.2.2.1, List.length_map]
theorem kB.len1 {o : Nat} {e : va_E} (h : kB L0 f0 x L f (B ++ [o]) (Es ++ [e])) : B.length = Es.length := by
  have := h.len
  rw [List.length_append, List.length_append] at this
  simpa using this
theorem kB.getL {o : Nat} {e : va_E} (h : kB L0 f0 x L f (B ++ [o]) (Es ++ [e])) : f o = e := h.get idx_last (by rw [h.len1]; exact idx_last)
theorem kB.memL {o : Nat} {e : va_E} (h : kB L0 f0 x L f (B ++ [o]) (Es ++ [e])) : o ∈ L := h.mem idx_last
theorem kB.nexL {o : Nat} {e : va_E} (h : kB L0 f0 x L f (B ++ [o]) (Es ++ [e])) (hx : x ∈ L0) : x ≠ o := h.nex hx idx_last
theorem kB.updL {o : Nat} {e e' : va_E} (h : kB L0 f0 x L f (B ++ [o]) (Es ++ [e])) : kB L0 f0 x L (va_up f o e') (B ++ [o]) (Es ++ [e']) := by
  have h2 := h.upd (e := e') idx_last
  rw [set_last h.len1] at h2
  exact h2
theorem kB.callL {o : Nat} {e e' : va_E} {L' : List Nat} {f' : Nat → va_E} {N : List Nat} {EsN : List va_E} (h : kB L0 f0 x L f (B ++ [o]) (Es ++ [e])) (h' : kB L f o L' f' N EsN) (he : f' o = e') : kB L0 f0 x L' f' (B ++ [o] ++ N) (Es ++ [e'] ++ EsN) := by
  have h2 := h.call idx_last h' he
  rw [set_last h.len1] at h2
  exact h2
theorem kx_mna {q N : Nat} {r : Nat → Nat} {e er e0 : va_E} (hq : q ∉ L) (hr : ∀ i, i < N → r i ∉ L ∧ r i ≠ q) (hx : x ∈ L) (hv : f x = e0) : va_up (vr_up f ((List.range N).map r) er) q e x = e0 := by
  rw [va_up_ne _ _ (fun h9 => hq (by rw [← h9]; exact hx)), vr_up_ne (fun z => ?_)]
  · exact hv
  · obtain ⟨i, hi, e9⟩ := List.mem_map.mp z
    exact (hr i (List.mem_range.mp hi)).1 (by rw [e9]; exact hx)
theorem kx_new {q : Nat} {e e0 : va_E} (hq : q ∉ L) (hx : x ∈ L) (hv : f x = e0) : va_up f q e x = e0 := (va_up_ne _ _ (fun h9 => hq (by rw [← h9]; exact hx))).trans hv
end KBR
theorem wH_nd {G : gG} {A : Nat → Prop} {H0 : Heap} {s : State} {L : List Nat} {f : Nat → va_E} {H : Heap} {locs : List Loc} (hw : wH G A H0 s L f H locs) : L.Nodup := by
  have hd := hw.2.2.1.1
  refine List.pairwise_iff_getElem.mpr ?_
  intro i j hi hj hij e
  have e1 : (va_pl L f)[i]? = some (L[i], f L[i]) := by unfold va_pl; rw [List.getElem?_map, List.getElem?_eq_getElem hi]; rfl
  have e2 : (va_pl L f)[j]? = some (L[j], f L[j]) := by unfold va_pl; rw [List.getElem?_map, List.getElem?_eq_getElem hj]; rfl
  have := hd i j _ _ e1 e2 e
  omega
theorem rows_nd {G : gG} {A : Nat → Prop} {H0 : Heap} {s : State} {L R : List Nat} {q : Nat} {f : Nat → va_E} {H : Heap} {locs : List Loc} (hw : wH G A H0 s (q :: (L ++ R)) f H locs) : R.Nodup := (List.nodup_append.mp (List.nodup_cons.mp (wH_nd hw)).2).2.1
