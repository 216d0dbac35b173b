/-- kind (1 int[], 2 long[], 3 int[][], 4 long[][], 5 object, 6 boolean[]), length or class, first row: by id -/
def kt : List (Nat × Nat × Nat) := [(5, 7, 0), (5, 4, 0), (5, 2, 0), (5, 1, 0), (5, 6, 0), (5, 3, 0), (5, 5, 0), (3, 80, 49), (1, 10, 0), (1, 10, 0), (2, 11, 0), (2, 11, 0), (2, 11, 0), (2, 21, 0), (2, 11, 0), (2, 21, 0), (2, 11, 0), (2, 11, 0), (2, 11, 0), (2, 11, 0), (4, 10, 129), (4, 10, 139), (4, 10, 149), (1, 10, 0), (2, 11, 0), (2, 11, 0), (4, 10, 159), (1, 10, 0), (2, 11, 0), (2, 11, 0), (2, 11, 0), (2, 11, 0), (2, 10, 0), (2, 10, 0), (2, 64, 0), (2, 64, 0), (5, 8, 0), (1, 20, 0), (1, 880, 0), (1, 10, 0), (1, 10, 0), (2, 1440, 0), (1, 60, 0), (1, 10, 0), (6, 12, 0), (1, 12, 0), (1, 12, 0), (1, 12, 0), (2, 1, 0), (1, 11, 0), (1, 11, 0), (1, 11, 0), (1, 11, 0), (1, 11, 0), (1, 11, 0), (1, 11, 0), (1, 11, 0), (1, 11, 0), (1, 11, 0), (1, 11, 0), (1, 11, 0), (1, 11, 0), (1, 11, 0), (1, 11, 0), (1, 11, 0), (1, 11, 0), (1, 11, 0), (1, 11, 0), (1, 11, 0), (1, 11, 0), (1, 11, 0), (1, 11, 0), (1, 11, 0), (1, 11, 0), (1, 11, 0), (1, 11, 0), (1, 11, 0), (1, 11, 0), (1, 11, 0), (1, 11, 0), (1, 11, 0), (1, 11, 0), (1, 11, 0), (1, 11, 0), (1, 11, 0), (1, 11, 0), (1, 11, 0), (1, 11, 0), (1, 11, 0), (1, 11, 0), (1, 11, 0), (1, 11, 0), (1, 11, 0), (1, 11, 0), (1, 11, 0), (1, 11, 0), (1, 11, 0), (1, 11, 0), (1, 11, 0), (1, 11, 0), (1, 11, 0), (1, 11, 0), (1, 11, 0), (1, 11, 0), (1, 11, 0), (1, 11, 0), (1, 11, 0), (1, 11, 0), (1, 11, 0), (1, 11, 0), (1, 11, 0), (1, 11, 0), (1, 11, 0), (1, 11, 0), (1, 11, 0), (1, 11, 0), (1, 11, 0), (1, 11, 0), (1, 11, 0), (1, 11, 0), (1, 11, 0), (1, 11, 0), (1, 11, 0), (1, 11, 0), (1, 11, 0), (1, 11, 0), (1, 11, 0), (1, 11, 0), (1, 11, 0), (2, 11, 0), (2, 11, 0), (2, 11, 0), (2, 11, 0), (2, 11, 0), (2, 11, 0), (2, 11, 0), (2, 11, 0), (2, 11, 0), (2, 11, 0), (2, 11, 0), (2, 11, 0), (2, 11, 0), (2, 11, 0), (2, 11, 0), (2, 11, 0), (2, 11, 0), (2, 11, 0), (2, 11, 0), (2, 11, 0), (2, 11, 0), (2, 11, 0), (2, 11, 0), (2, 11, 0), (2, 11, 0), (2, 11, 0), (2, 11, 0), (2, 11, 0), (2, 11, 0), (2, 11, 0), (2, 11, 0), (2, 11, 0), (2, 11, 0), (2, 11, 0), (2, 11, 0), (2, 11, 0), (2, 11, 0), (2, 11, 0), (2, 11, 0), (2, 11, 0)]
def kd (k : Nat) : Nat := (kt.getD k (0, 0, 0)).1
def kn (k : Nat) : Nat := (kt.getD k (0, 0, 0)).2.1
def kr (k : Nat) : Nat := (kt.getD k (0, 0, 0)).2.2
/-- an object's fields: 0 a reference to an id, 1 an int, 2 a long -/
def kf (k : Nat) : List (Nat × Nat) := match k with
  | 0 => [(0, 7), (1, 0), (0, 8), (0, 9), (1, 0), (0, 10), (0, 11), (0, 12), (0, 13), (0, 1), (0, 2), (0, 3), (0, 4), (0, 5), (0, 6)]
  | 1 => [(2, 0), (0, 14), (0, 15), (0, 16), (0, 17)]
  | 2 => [(0, 18), (0, 19)]
  | 3 => [(0, 1), (0, 2)]
  | 4 => [(0, 20), (1, 0), (1, 0), (0, 1), (0, 21), (0, 22), (0, 23), (0, 24), (0, 25)]
  | 5 => [(0, 26), (0, 27), (1, 0), (0, 1), (0, 2), (0, 3), (0, 4), (0, 28), (0, 29), (0, 30), (0, 31)]
  | 6 => [(0, 32), (0, 33), (1, 0), (0, 34), (0, 35)]
  | 36 => [(0, 37), (0, 38), (1, 0), (1, 0), (1, 0), (0, 39), (0, 40), (0, 41), (0, 42), (2, 0), (1, 0), (1, 0), (0, 43), (0, 44), (0, 45), (1, 0), (0, 46), (0, 47)]
  | _ => []
/-- numbers: longs and ints, by id and place (of an array its places, of an object its fields) -/
abbrev Mem : Type := (Nat → Nat → Int64) × (Nat → Nat → Int32)
def fsv (adr : Nat → Nat) (M : Mem) (k : Nat) : Nat → List (Nat × Nat) → List Value
  | _, [] => []
  | i, q :: r => (if q.1 = 0 then .ref (adr q.2) else if q.1 = 1 then .int (M.2 k i) else .long (M.1 k i)) :: fsv adr M k (i + 1) r
def ent (G : gG) (adr : Nat → Nat) (M : Mem) (k : Nat) : va_E :=
  if kd k = 1 then eI G (kn k) (M.2 k) else if kd k = 2 then eJ G (kn k) (M.1 k) else if kd k = 3 then eII G (kn k) (fun j => some (adr (kr k + j))) else if kd k = 4 then eJJ G (kn k) (fun j => some (adr (kr k + j))) else if kd k = 6 then eZ G (kn k) (M.2 k) else eO (kn k) (fsv adr M k 0 (kf k))
def LL (adr : Nat → Nat) : List Nat := (List.range 169).map adr
def ix (adr : Nat → Nat) (a : Nat) : Nat := ((List.range 169).find? (fun k => adr k == a)).getD 169
def wf (G : gG) (adr : Nat → Nat) (M : Mem) : Nat → va_E := fun a => ent G adr M (ix adr a)
def adi (adr : Nat → Nat) : Prop := ∀ i, i < 169 → ∀ j, j < 169 → adr i = adr j → i = j

theorem LL_mem {adr : Nat → Nat} {k : Nat} (h : k < 169) : adr k ∈ LL adr := List.mem_map.mpr ⟨k, List.mem_range.mpr h, rfl⟩
theorem ix_cases (adr : Nat → Nat) (a : Nat) : (ix adr a < 169 ∧ adr (ix adr a) = a) ∨ (ix adr a = 169 ∧ ∀ k, k < 169 → adr k ≠ a) := by
  unfold ix
  cases h : (List.range 169).find? (fun k => adr k == a) with
  | none =>
    refine Or.inr ⟨rfl, fun k hk e => ?_⟩
    have := List.find?_eq_none.mp h k (List.mem_range.mpr hk)
    simp [e] at this
  | some k =>
    refine Or.inl ⟨List.mem_range.mp (List.mem_of_find?_eq_some h), ?_⟩
    have := List.find?_some h
    simpa using this
theorem ix_adr {adr : Nat → Nat} (hi : adi adr) {k : Nat} (h : k < 169) : ix adr (adr k) = k := by
  rcases ix_cases adr (adr k) with ⟨h1, h2⟩ | ⟨_, h2⟩
  · exact hi _ h1 _ h h2
  · exact absurd rfl (h2 k h)
theorem wf_adr {G : gG} {adr : Nat → Nat} (hi : adi adr) (M : Mem) {k : Nat} (h : k < 169) : wf G adr M (adr k) = ent G adr M k := by
  unfold wf; rw [ix_adr hi h]
def sJ (M : Mem) (k j : Nat) (x : Int64) : Mem := (fun a => if a = k then vp_updL (M.1 k) j x else M.1 a, M.2)
def sI (M : Mem) (k j : Nat) (x : Int32) : Mem := (M.1, fun a => if a = k then upd (M.2 k) j x else M.2 a)
theorem sJ_1 (M : Mem) (k j : Nat) (x : Int64) : (sJ M k j x).1 k = vp_updL (M.1 k) j x := if_pos rfl
theorem sI_2 (M : Mem) (k j : Nat) (x : Int32) : (sI M k j x).2 k = upd (M.2 k) j x := if_pos rfl
theorem fsv_congr {adr : Nat → Nat} {M M' : Mem} {k : Nat} (h1 : M'.1 k = M.1 k) (h2 : M'.2 k = M.2 k) : ∀ (l : List (Nat × Nat)) (i : Nat), fsv adr M' k i l = fsv adr M k i l
  | [], _ => rfl
  | q :: r, i => by simp only [fsv, h1, h2, fsv_congr h1 h2 r (i + 1)]
theorem ent_congr {G : gG} {adr : Nat → Nat} {M M' : Mem} {k : Nat} (h1 : M'.1 k = M.1 k) (h2 : M'.2 k = M.2 k) : ent G adr M' k = ent G adr M k := by
  unfold ent
  rw [fsv_congr h1 h2, h1, h2]
theorem wf_up {G : gG} {adr : Nat → Nat} (hi : adi adr) {M M' : Mem} {k : Nat} (h : k < 169) (hk : ∀ q, q ≠ k → M'.1 q = M.1 q ∧ M'.2 q = M.2 q) : va_up (wf G adr M) (adr k) (ent G adr M' k) = wf G adr M' := by
  funext a
  by_cases e : a = adr k
  · subst e
    rw [va_up_eq, wf_adr hi M' h]
  · rw [va_up_ne _ _ e]
    unfold wf
    have hne : ix adr a ≠ k := by
      intro e2
      rcases ix_cases adr a with ⟨_, h2⟩ | ⟨h1, _⟩
      · exact e (by rw [← h2, e2])
      · omega
    exact (ent_congr (hk _ hne).1 (hk _ hne).2).symm
theorem sJ_ne {M : Mem} {k j : Nat} {x : Int64} (q : Nat) (h : q ≠ k) : (sJ M k j x).1 q = M.1 q ∧ (sJ M k j x).2 q = M.2 q := ⟨if_neg h, rfl⟩
theorem sI_ne {M : Mem} {k j : Nat} {x : Int32} (q : Nat) (h : q ≠ k) : (sI M k j x).1 q = M.1 q ∧ (sI M k j x).2 q = M.2 q := ⟨rfl, if_neg h⟩
set_option maxRecDepth 20000 in
theorem kd_lt {k : Nat} (h : kd k ≠ 0) : k < 169 := by
  rcases Nat.lt_or_ge k 169 with h1 | h1
  · exact h1
  · exfalso; apply h
    unfold kd
    rw [List.getD_eq_getElem?_getD, List.getElem?_eq_none (by show kt.length ≤ k; rw [show kt.length = 169 from rfl]; exact h1)]
    rfl
theorem ent_I {G : gG} {adr : Nat → Nat} {M : Mem} {k : Nat} (h : kd k = 1) : ent G adr M k = eI G (kn k) (M.2 k) := by unfold ent; rw [if_pos h]
theorem ent_J {G : gG} {adr : Nat → Nat} {M : Mem} {k : Nat} (h : kd k = 2) : ent G adr M k = eJ G (kn k) (M.1 k) := by unfold ent; rw [if_neg (by rw [h]; decide), if_pos h]
theorem ent_II {G : gG} {adr : Nat → Nat} {M : Mem} {k : Nat} (h : kd k = 3) : ent G adr M k = eII G (kn k) (fun j => some (adr (kr k + j))) := by unfold ent; rw [if_neg (by rw [h]; decide), if_neg (by rw [h]; decide), if_pos h]
theorem ent_JJ {G : gG} {adr : Nat → Nat} {M : Mem} {k : Nat} (h : kd k = 4) : ent G adr M k = eJJ G (kn k) (fun j => some (adr (kr k + j))) := by unfold ent; rw [if_neg (by rw [h]; decide), if_neg (by rw [h]; decide), if_neg (by rw [h]; decide), if_pos h]
theorem ent_O {G : gG} {adr : Nat → Nat} {M : Mem} {k : Nat} (h : kd k = 5) : ent G adr M k = eO (kn k) (fsv adr M k 0 (kf k)) := by unfold ent; rw [if_neg (by rw [h]; decide), if_neg (by rw [h]; decide), if_neg (by rw [h]; decide), if_neg (by rw [h]; decide), if_neg (by rw [h]; decide)]
theorem fsv_off {adr : Nat → Nat} {M M' : Mem} {k : Nat} : ∀ (l : List (Nat × Nat)) (i : Nat), (∀ j, i ≤ j → M'.1 k j = M.1 k j ∧ M'.2 k j = M.2 k j) → fsv adr M' k i l = fsv adr M k i l
  | [], _, _ => rfl
  | q :: r, i, h => by
    simp only [fsv, (h i (Nat.le_refl i)).1, (h i (Nat.le_refl i)).2, fsv_off r (i + 1) (fun j hj => h j (by omega))]
theorem fsv_setI {adr : Nat → Nat} {M : Mem} {k : Nat} {v : Int32} : ∀ (l : List (Nat × Nat)) (i j : Nat), (l[j]?.map (·.1)) = some 1 → (fsv adr M k i l).set j (.int v) = fsv adr (sI M k (i + j) v) k i l
  | [], _, _, h => by simp at h
  | q :: r, i, 0, h => by
    have hq : q.1 = 1 := by simpa using h
    simp only [fsv, List.set_cons_zero, hq, Nat.add_zero]
    rw [fsv_off r (i + 1) (M := M) (M' := sI M k i v) (fun j hj => ⟨rfl, by rw [sI_2]; simp [upd, show j ≠ i by omega]⟩)]
    rw [sI_2]; simp [upd]
  | q :: r, i, j + 1, h => by
    have h2 := fsv_setI (adr := adr) (M := M) (k := k) (v := v) r (i + 1) j (by simpa using h)
    simp only [fsv, List.set_cons_succ, h2, show i + 1 + j = i + (j + 1) by omega]
    congr 1
    rw [sI_2]; simp [upd, show i ≠ i + (j + 1) by omega, sI]
theorem fsv_setJ {adr : Nat → Nat} {M : Mem} {k : Nat} {v : Int64} : ∀ (l : List (Nat × Nat)) (i j : Nat), (l[j]?.map (·.1)) = some 2 → (fsv adr M k i l).set j (.long v) = fsv adr (sJ M k (i + j) v) k i l
  | [], _, _, h => by simp at h
  | q :: r, i, 0, h => by
    have hq : q.1 = 2 := by simpa using h
    simp only [fsv, List.set_cons_zero, hq, Nat.add_zero]
    rw [fsv_off r (i + 1) (M := M) (M' := sJ M k i v) (fun j hj => ⟨by rw [sJ_1]; simp [vp_updL, show j ≠ i by omega], rfl⟩)]
    rw [sJ_1]; simp [vp_updL]
  | q :: r, i, j + 1, h => by
    have h2 := fsv_setJ (adr := adr) (M := M) (k := k) (v := v) r (i + 1) j (by simpa using h)
    simp only [fsv, List.set_cons_succ, h2, show i + 1 + j = i + (j + 1) by omega]
    congr 1
    rw [sJ_1]; simp [vp_updL, show i ≠ i + (j + 1) by omega, sJ]
theorem fsv_len {adr : Nat → Nat} {M : Mem} {k : Nat} : ∀ (l : List (Nat × Nat)) (i : Nat), (fsv adr M k i l).length = l.length
  | [], _ => rfl
  | q :: r, i => by simp only [fsv, List.length_cons, fsv_len r (i + 1)]

/-! the steps of the mirrors: none where the machine would throw -/
def ldJ (M : Mem) (k : Nat) (i : Int32) : Option Int64 := if kd k = 2 ∧ ¬ (i < 0 ∨ kn k ≤ i.toNatClampNeg) then some (M.1 k i.toNatClampNeg) else none
def ldI (M : Mem) (k : Nat) (i : Int32) : Option Int32 := if kd k = 1 ∧ ¬ (i < 0 ∨ kn k ≤ i.toNatClampNeg) then some (M.2 k i.toNatClampNeg) else none
def ldA (k : Nat) (i : Int32) : Option Nat := if (kd k = 3 ∨ kd k = 4) ∧ ¬ (i < 0 ∨ kn k ≤ i.toNatClampNeg) then some (kr k + i.toNatClampNeg) else none
def stJ (M : Mem) (k : Nat) (i : Int32) (x : Int64) : Option Mem := if kd k = 2 ∧ ¬ (i < 0 ∨ kn k ≤ i.toNatClampNeg) then some (sJ M k i.toNatClampNeg x) else none
def stI (M : Mem) (k : Nat) (i : Int32) (x : Int32) : Option Mem := if kd k = 1 ∧ ¬ (i < 0 ∨ kn k ≤ i.toNatClampNeg) then some (sI M k i.toNatClampNeg x) else none
def lnA (k : Nat) : Option Int32 := if kd k = 1 ∨ kd k = 2 then some (nI (kn k)) else none
def dvJ (x y : Int64) : Option Int64 := if y = 0 then none else some (x / y)
def rmJ (x y : Int64) : Option Int64 := if y = 0 then none else some (x - x / y * y)
def dvI (x y : Int32) : Option Int32 := if y = 0 then none else some (x / y)
def rmI (x y : Int32) : Option Int32 := if y = 0 then none else some (x - x / y * y)
def lpF {σ ρ : Type} (step : σ → Option (ρ ⊕ σ)) : Nat → σ → Option ρ
  | 0, _ => none
  | n + 1, s => match step s with
    | none => none
    | some (.inl r) => some r
    | some (.inr s') => lpF step n s'
theorem lp_W {σ ρ : Type} {step : σ → Option (ρ ⊕ σ)} {Wst : σ → Prop} {fin : ρ → Prop} (hstep : ∀ s x, step s = some x → (∀ r, x = .inl r → fin r) → (∀ s', x = .inr s' → Wst s') → Wst s) :
    ∀ (n : Nat) (s : σ) (r : ρ), lpF step n s = some r → fin r → Wst s
  | 0, _, _, h, _ => by simp [lpF] at h
  | n + 1, s, r, h, hf => by
    unfold lpF at h
    cases hs : step s with
    | none => rw [hs] at h; simp at h
    | some x =>
      rw [hs] at h
      refine hstep s x hs ?_ ?_
      · intro r' e
        subst e
        simp at h
        rw [h]; exact hf
      · intro s' e
        subst e
        exact lp_W hstep n s' r h hf
theorem bnd {α β : Type} {a : Option α} {f : α → Option β} {r : β} (h : Option.bind a f = some r) : ∃ x, a = some x ∧ f x = some r := Option.bind_eq_some_iff.mp h
theorem ite_t {c : Prop} [Decidable c] {β : Type} {a b r : β} (hc : c) (h : (if c then a else b) = r) : a = r := by rw [if_pos hc] at h; exact h
theorem ite_f {c : Prop} [Decidable c] {β : Type} {a b r : β} (hc : ¬ c) (h : (if c then a else b) = r) : b = r := by rw [if_neg hc] at h; exact h
theorem ite_s {c : Prop} [Decidable c] {α : Type} {a r : α} (h : (if c then some a else none) = some r) : c ∧ a = r := by
  by_cases hc : c
  · rw [if_pos hc] at h; exact ⟨hc, Option.some.inj h⟩
  · rw [if_neg hc] at h; exact nomatch h
theorem ite_n {c : Prop} [Decidable c] {α : Type} {a r : α} (h : (if c then none else some a) = some r) : ¬ c ∧ a = r := by
  by_cases hc : c
  · rw [if_pos hc] at h; exact nomatch h
  · rw [if_neg hc] at h; exact ⟨hc, Option.some.inj h⟩
section MRows
variable {p : Program} {l : Launch} {e : Env} {R : Room} {s : State} {m : MethodId} {args : Array Value} {below : List Frame} {meth : Method} {c : Code} {H : Heap} {locs : List Loc} {cells slots : Nat} {Q : State → Prop}
variable {cc : ByteArray} {pc : Nat} {ls : Array Slot} {rest : List Value} {G : gG} {A : Nat → Prop} {adr : Nat → Nat} {H0 : Heap} {M : Mem} {k : Nat}
theorem m_lald (hx : p.tables.exec = Jvm.exec) (hb : c.code = cc) (hi : adi adr) (hw : wH G A H0 s (LL adr) (wf G adr M) H locs) {i : Int32} {v : Int64} (h : ldJ M k i = some v) (hdg : decode cc pc = .ok (.laload, 1))
    (kk : W p l e R s m args below meth c H locs cells slots Q (F0 m (pc + 1) ls (.long v :: rest))) : W p l e R s m args below meth c H locs cells slots Q (F0 m pc ls (.int i :: .ref (adr k) :: rest)) := by
  obtain ⟨⟨hk, hin⟩, rfl⟩ := ite_s h
  have hl : k < 169 := kd_lt (by omega)
  exact w_lald hx hb hw (LL_mem hl) ((wf_adr hi M hl).trans (ent_J hk)) hin hdg kk
theorem m_iald (hx : p.tables.exec = Jvm.exec) (hb : c.code = cc) (hi : adi adr) (hw : wH G A H0 s (LL adr) (wf G adr M) H locs) {i : Int32} {v : Int32} (h : ldI M k i = some v) (hdg : decode cc pc = .ok (.iaload, 1))
    (kk : W p l e R s m args below meth c H locs cells slots Q (F0 m (pc + 1) ls (.int v :: rest))) : W p l e R s m args below meth c H locs cells slots Q (F0 m pc ls (.int i :: .ref (adr k) :: rest)) := by
  obtain ⟨⟨hk, hin⟩, rfl⟩ := ite_s h
  have hl : k < 169 := kd_lt (by omega)
  exact w_iald hx hb hw (LL_mem hl) ((wf_adr hi M hl).trans (ent_I hk)) hin hdg kk
theorem m_aald (hx : p.tables.exec = Jvm.exec) (hb : c.code = cc) (hi : adi adr) (hw : wH G A H0 s (LL adr) (wf G adr M) H locs) {i : Int32} {v : Nat} (h : ldA k i = some v) (hdg : decode cc pc = .ok (.aaload, 1))
    (kk : W p l e R s m args below meth c H locs cells slots Q (F0 m (pc + 1) ls (.ref (adr v) :: rest))) : W p l e R s m args below meth c H locs cells slots Q (F0 m pc ls (.int i :: .ref (adr k) :: rest)) := by
  obtain ⟨⟨hk, hin⟩, rfl⟩ := ite_s h
  have hl : k < 169 := kd_lt (by omega)
  exact w_aldq (r := fun j => some (adr (kr k + j))) hx hb hw (LL_mem hl) (hk.elim (fun hk => Or.inl ((wf_adr hi M hl).trans (ent_II hk))) (fun hk => Or.inr ((wf_adr hi M hl).trans (ent_JJ hk)))) hin hdg kk
theorem m_len (hx : p.tables.exec = Jvm.exec) (hb : c.code = cc) (hi : adi adr) (hw : wH G A H0 s (LL adr) (wf G adr M) H locs) {v : Int32} (h : lnA k = some v) (hdg : decode cc pc = .ok (.arraylength, 1))
    (kk : W p l e R s m args below meth c H locs cells slots Q (F0 m (pc + 1) ls (.int v :: rest))) : W p l e R s m args below meth c H locs cells slots Q (F0 m pc ls (.ref (adr k) :: rest)) := by
  obtain ⟨hk, rfl⟩ := ite_s h
  have hl : k < 169 := kd_lt (by omega)
  rcases hk with hk | hk
  · exact w_lenI hx hb hw (LL_mem hl) ((wf_adr hi M hl).trans (ent_I hk)) hdg kk
  · exact w_lenJ hx hb hw (LL_mem hl) ((wf_adr hi M hl).trans (ent_J hk)) hdg kk
theorem m_last (hx : p.tables.exec = Jvm.exec) (hb : c.code = cc) (hi : adi adr) (hw : wH G A H0 s (LL adr) (wf G adr M) H locs) {i : Int32} {x : Int64} {M' : Mem} (h : stJ M k i x = some M') (hdg : decode cc pc = .ok (.lastore, 1))
    (kk : ∀ (H1 : Heap) (locs1 : List Loc), wH G A H0 s (LL adr) (wf G adr M') H1 locs1 → W p l e R s m args below meth c H1 locs1 cells slots Q (F0 m (pc + 1) ls rest)) : W p l e R s m args below meth c H locs cells slots Q (F0 m pc ls (.long x :: .int i :: .ref (adr k) :: rest)) := by
  obtain ⟨⟨hk, hin⟩, rfl⟩ := ite_s h
  have hl : k < 169 := kd_lt (by omega)
  refine w_last hx hb hw (LL_mem hl) ((wf_adr hi M hl).trans (ent_J hk)) hin hdg (fun H1 locs1 h1 => kk H1 locs1 ?_)
  rw [← wf_up hi (M := M) hl sJ_ne, ent_J hk, sJ_1]
  exact h1
theorem m_iast (hx : p.tables.exec = Jvm.exec) (hb : c.code = cc) (hi : adi adr) (hw : wH G A H0 s (LL adr) (wf G adr M) H locs) {i : Int32} {x : Int32} {M' : Mem} (h : stI M k i x = some M') (hdg : decode cc pc = .ok (.iastore, 1))
    (kk : ∀ (H1 : Heap) (locs1 : List Loc), wH G A H0 s (LL adr) (wf G adr M') H1 locs1 → W p l e R s m args below meth c H1 locs1 cells slots Q (F0 m (pc + 1) ls rest)) : W p l e R s m args below meth c H locs cells slots Q (F0 m pc ls (.int x :: .int i :: .ref (adr k) :: rest)) := by
  obtain ⟨⟨hk, hin⟩, rfl⟩ := ite_s h
  have hl : k < 169 := kd_lt (by omega)
  refine w_iast hx hb hw (LL_mem hl) ((wf_adr hi M hl).trans (ent_I hk)) hin hdg (fun H1 locs1 h1 => kk H1 locs1 ?_)
  rw [← wf_up hi (M := M) hl sI_ne, ent_I hk, sI_2]
  exact h1
theorem m_get (hx : p.tables.exec = Jvm.exec) (hb : c.code = cc) (hi : adi adr) {own ref C : String} {T : u_T} {N index : Nat} (hts : ∀ w ∈ uU, w.before args s = true) (hin : ∀ w ∈ u_ws C T N, w ∈ uU) (hown : s.vm.findClass own = some m.cls) (hw : wH G A H0 s (LL adr) (wf G adr M) H locs) (hkd : kd k = 5) (hc : vwCl[kn k]? = some (C, T, N)) (j : Nat) (hj : j < N) (hlink : Cond.fieldLink own index ref (T j).2.1 (T j).2.2.1 ∈ uU) (href : (T j).1 = ref) {v : Value} (hv : (fsv adr M k 0 (kf k))[j]? = some v) (hdg : decode cc pc = .ok (.getfield index, 3))
    (kk : W p l e R s m args below meth c H locs cells slots Q (F0 m (pc + 3) ls (v :: rest))) : W p l e R s m args below meth c H locs cells slots Q (F0 m pc ls (.ref (adr k) :: rest)) := by
  have hl : k < 169 := kd_lt (by omega)
  exact w_get hx hb hts hin hown hw (LL_mem hl) ((wf_adr hi M hl).trans (ent_O hkd)) hc j hj hlink href hv hdg kk
theorem m_putI (hx : p.tables.exec = Jvm.exec) (hb : c.code = cc) (hi : adi adr) {own ref C : String} {T : u_T} {N index : Nat} (hts : ∀ w ∈ uU, w.before args s = true) (hin : ∀ w ∈ u_ws C T N, w ∈ uU) (ty0 : Nat → FieldType) (hty : ∀ k, k < N → parseFieldDescriptor (T k).2.2.1 = some (ty0 k)) (hnm : ∀ a, a < N → ∀ b, b < N → a ≠ b → (T a).2.1 ≠ (T b).2.1) (hown : s.vm.findClass own = some m.cls) (hw : wH G A H0 s (LL adr) (wf G adr M) H locs) (hkd : kd k = 5) (hc : vwCl[kn k]? = some (C, T, N)) (j : Nat) (hj : j < N) (hlink : Cond.fieldLink own index ref (T j).2.1 (T j).2.2.1 ∈ uU) (href : (T j).1 = ref) (hfin : (T j).2.2.2 = false) {v : Int32} (hd : parseFieldDescriptor (T j).2.2.1 = some .int) (hq : ((kf k)[j]?.map (·.1)) = some 1) (hdg : decode cc pc = .ok (.putfield index, 3))
    (kk : ∀ (H1 : Heap) (locs1 : List Loc), wH G A H0 s (LL adr) (wf G adr (sI M k j v)) H1 locs1 → W p l e R s m args below meth c H1 locs1 cells slots Q (F0 m (pc + 3) ls rest)) : W p l e R s m args below meth c H locs cells slots Q (F0 m pc ls (.int v :: .ref (adr k) :: rest)) := by
  have hl : k < 169 := kd_lt (by omega)
  have hjl : j < (kf k).length := by
    rcases Nat.lt_or_ge j (kf k).length with q | q
    · exact q
    · rw [List.getElem?_eq_none q] at hq; exact nomatch hq
  refine w_put hx hb hts hin ty0 hty hnm hown hw (LL_mem hl) ((wf_adr hi M hl).trans (ent_O hkd)) hc j hj hlink href hfin hd rfl rfl (by rw [fsv_len]; exact hjl) hdg (fun H1 locs1 h1 => kk H1 locs1 ?_)
  rw [← wf_up hi (M := M) hl sI_ne, ent_O hkd]
  rw [fsv_setI _ _ _ hq, Nat.zero_add] at h1
  exact h1
theorem m_putJ (hx : p.tables.exec = Jvm.exec) (hb : c.code = cc) (hi : adi adr) {own ref C : String} {T : u_T} {N index : Nat} (hts : ∀ w ∈ uU, w.before args s = true) (hin : ∀ w ∈ u_ws C T N, w ∈ uU) (ty0 : Nat → FieldType) (hty : ∀ k, k < N → parseFieldDescriptor (T k).2.2.1 = some (ty0 k)) (hnm : ∀ a, a < N → ∀ b, b < N → a ≠ b → (T a).2.1 ≠ (T b).2.1) (hown : s.vm.findClass own = some m.cls) (hw : wH G A H0 s (LL adr) (wf G adr M) H locs) (hkd : kd k = 5) (hc : vwCl[kn k]? = some (C, T, N)) (j : Nat) (hj : j < N) (hlink : Cond.fieldLink own index ref (T j).2.1 (T j).2.2.1 ∈ uU) (href : (T j).1 = ref) (hfin : (T j).2.2.2 = false) {v : Int64} (hd : parseFieldDescriptor (T j).2.2.1 = some .long) (hq : ((kf k)[j]?.map (·.1)) = some 2) (hdg : decode cc pc = .ok (.putfield index, 3))
    (kk : ∀ (H1 : Heap) (locs1 : List Loc), wH G A H0 s (LL adr) (wf G adr (sJ M k j v)) H1 locs1 → W p l e R s m args below meth c H1 locs1 cells slots Q (F0 m (pc + 3) ls rest)) : W p l e R s m args below meth c H locs cells slots Q (F0 m pc ls (.long v :: .ref (adr k) :: rest)) := by
  have hl : k < 169 := kd_lt (by omega)
  have hjl : j < (kf k).length := by
    rcases Nat.lt_or_ge j (kf k).length with q | q
    · exact q
    · rw [List.getElem?_eq_none q] at hq; exact nomatch hq
  refine w_put hx hb hts hin ty0 hty hnm hown hw (LL_mem hl) ((wf_adr hi M hl).trans (ent_O hkd)) hc j hj hlink href hfin hd rfl rfl (by rw [fsv_len]; exact hjl) hdg (fun H1 locs1 h1 => kk H1 locs1 ?_)
  rw [← wf_up hi (M := M) hl sJ_ne, ent_O hkd]
  rw [fsv_setJ _ _ _ hq, Nat.zero_add] at h1
  exact h1

theorem m_lcmp_lt (hx : p.tables.exec = Jvm.exec) (hb : c.code = cc) {x y : Int64} {off : Int} {tgt : Nat} (hd0 : decode cc pc = .ok (.lcmp, 1)) (hdg : decode cc (pc + 1) = .ok (.ifCond .lt off, 3)) (ht : ((pc + 1 : Nat) : Int) + off = (tgt : Int))
    (kt : x < y → W p l e R s m args below meth c H locs cells slots Q (F0 m tgt ls rest)) (kf : ¬ (x < y) → W p l e R s m args below meth c H locs cells slots Q (F0 m (pc + 4) ls rest)) : W p l e R s m args below meth c H locs cells slots Q (F0 m pc ls (.long y :: .long x :: rest)) := by
  refine W.lcmp hx hb hd0 ?_
  exact lv_if_lt hx hb hdg ht (fun h => kt ((lg_cmp_lt x y).mp h)) (fun h => kf (fun q => h ((lg_cmp_lt x y).mpr q)))

theorem m_lcmp_ge (hx : p.tables.exec = Jvm.exec) (hb : c.code = cc) {x y : Int64} {off : Int} {tgt : Nat} (hd0 : decode cc pc = .ok (.lcmp, 1)) (hdg : decode cc (pc + 1) = .ok (.ifCond .ge off, 3)) (ht : ((pc + 1 : Nat) : Int) + off = (tgt : Int))
    (kt : y ≤ x → W p l e R s m args below meth c H locs cells slots Q (F0 m tgt ls rest)) (kf : ¬ (y ≤ x) → W p l e R s m args below meth c H locs cells slots Q (F0 m (pc + 4) ls rest)) : W p l e R s m args below meth c H locs cells slots Q (F0 m pc ls (.long y :: .long x :: rest)) := by
  refine W.lcmp hx hb hd0 ?_
  exact lv_if_ge hx hb hdg ht (fun h => kt ((lg_cmp_ge x y).mp h)) (fun h => kf (fun q => h ((lg_cmp_ge x y).mpr q)))

theorem m_lcmp_gt (hx : p.tables.exec = Jvm.exec) (hb : c.code = cc) {x y : Int64} {off : Int} {tgt : Nat} (hd0 : decode cc pc = .ok (.lcmp, 1)) (hdg : decode cc (pc + 1) = .ok (.ifCond .gt off, 3)) (ht : ((pc + 1 : Nat) : Int) + off = (tgt : Int))
    (kt : y < x → W p l e R s m args below meth c H locs cells slots Q (F0 m tgt ls rest)) (kf : ¬ (y < x) → W p l e R s m args below meth c H locs cells slots Q (F0 m (pc + 4) ls rest)) : W p l e R s m args below meth c H locs cells slots Q (F0 m pc ls (.long y :: .long x :: rest)) := by
  refine W.lcmp hx hb hd0 ?_
  exact lv_if_gt hx hb hdg ht (fun h => kt ((lg_cmp_gt x y).mp h)) (fun h => kf (fun q => h ((lg_cmp_gt x y).mpr q)))

theorem m_lcmp_le (hx : p.tables.exec = Jvm.exec) (hb : c.code = cc) {x y : Int64} {off : Int} {tgt : Nat} (hd0 : decode cc pc = .ok (.lcmp, 1)) (hdg : decode cc (pc + 1) = .ok (.ifCond .le off, 3)) (ht : ((pc + 1 : Nat) : Int) + off = (tgt : Int))
    (kt : x ≤ y → W p l e R s m args below meth c H locs cells slots Q (F0 m tgt ls rest)) (kf : ¬ (x ≤ y) → W p l e R s m args below meth c H locs cells slots Q (F0 m (pc + 4) ls rest)) : W p l e R s m args below meth c H locs cells slots Q (F0 m pc ls (.long y :: .long x :: rest)) := by
  refine W.lcmp hx hb hd0 ?_
  exact lv_if_le hx hb hdg ht (fun h => kt ((lg_cmp_le x y).mp h)) (fun h => kf (fun q => h ((lg_cmp_le x y).mpr q)))

theorem m_lcmp_eq (hx : p.tables.exec = Jvm.exec) (hb : c.code = cc) {x y : Int64} {off : Int} {tgt : Nat} (hd0 : decode cc pc = .ok (.lcmp, 1)) (hdg : decode cc (pc + 1) = .ok (.ifCond .eq off, 3)) (ht : ((pc + 1 : Nat) : Int) + off = (tgt : Int))
    (kt : x = y → W p l e R s m args below meth c H locs cells slots Q (F0 m tgt ls rest)) (kf : ¬ (x = y) → W p l e R s m args below meth c H locs cells slots Q (F0 m (pc + 4) ls rest)) : W p l e R s m args below meth c H locs cells slots Q (F0 m pc ls (.long y :: .long x :: rest)) := n_lcmp_eq hx hb hd0 hdg ht kt kf
theorem m_lcmp_ne (hx : p.tables.exec = Jvm.exec) (hb : c.code = cc) {x y : Int64} {off : Int} {tgt : Nat} (hd0 : decode cc pc = .ok (.lcmp, 1)) (hdg : decode cc (pc + 1) = .ok (.ifCond .ne off, 3)) (ht : ((pc + 1 : Nat) : Int) + off = (tgt : Int))
    (kt : ¬ (x = y) → W p l e R s m args below meth c H locs cells slots Q (F0 m tgt ls rest)) (kf : x = y → W p l e R s m args below meth c H locs cells slots Q (F0 m (pc + 4) ls rest)) : W p l e R s m args below meth c H locs cells slots Q (F0 m pc ls (.long y :: .long x :: rest)) := n_lcmp_ne hx hb hd0 hdg ht kt kf
end MRows
