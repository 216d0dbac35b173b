abbrev MI : Type := (Nat → Nat → Int) × (Nat → Nat → Int)
def tm (M : MI) : Mem := (fun k i => Int64.ofInt (M.1 k i), fun k i => Int32.ofInt (M.2 k i))
abbrev inI (z : Int) : Prop := -2147483648 ≤ z ∧ z ≤ 2147483647
abbrev inJ (z : Int) : Prop := -9223372036854775808 ≤ z ∧ z ≤ 9223372036854775807
def gI (x y : Int) : Option Unit := if inI x ∧ inI y then some () else none
def gJ (x y : Int) : Option Unit := if inJ x ∧ inJ y then some () else none
def oJ (M : MI) (k j : Nat) (x : Int) : MI := (fun a => if a = k then fun i => if i = j then x else M.1 k i else M.1 a, M.2)
def oI (M : MI) (k j : Nat) (x : Int) : MI := (M.1, fun a => if a = k then fun i => if i = j then x else M.2 k i else M.2 a)
def odJ (M : MI) (k : Nat) (i : Int) : Option Int := if kd k = 2 ∧ 0 ≤ i ∧ i < kn k then some (M.1 k i.toNat) else none
def odI (M : MI) (k : Nat) (i : Int) : Option Int := if kd k = 1 ∧ 0 ≤ i ∧ i < kn k then some (M.2 k i.toNat) else none
def odA (k : Nat) (i : Int) : Option Nat := if (kd k = 3 ∨ kd k = 4) ∧ 0 ≤ i ∧ i < kn k then some (kr k + i.toNat) else none
def osJ (M : MI) (k : Nat) (i x : Int) : Option MI := if kd k = 2 ∧ 0 ≤ i ∧ i < kn k then some (oJ M k i.toNat x) else none
def osI (M : MI) (k : Nat) (i x : Int) : Option MI := if kd k = 1 ∧ 0 ≤ i ∧ i < kn k then some (oI M k i.toNat x) else none
def olA (k : Nat) : Option Int := if kd k = 1 ∨ kd k = 2 then some (kn k : Int) else none
def oqJ (x y : Int) : Option Int := if inJ x ∧ inJ y ∧ y ≠ 0 ∧ x ≠ -9223372036854775808 then some (x.tdiv y) else none
def orJ (x y : Int) : Option Int := if inJ x ∧ inJ y ∧ y ≠ 0 ∧ x ≠ -9223372036854775808 then some (x.tmod y) else none
def oqI (x y : Int) : Option Int := if inI x ∧ inI y ∧ y ≠ 0 ∧ x ≠ -2147483648 then some (x.tdiv y) else none
def orI (x y : Int) : Option Int := if inI x ∧ inI y ∧ y ≠ 0 ∧ x ≠ -2147483648 then some (x.tmod y) else none
def opI (M : MI) (k j : Nat) (x : Int) : Option MI := some (oI M k j x)
def opJ (M : MI) (k j : Nat) (x : Int) : Option MI := some (oJ M k j x)
def obz (r : Int) : Option Int := if r = 0 ∨ r = 1 then some r else none
def oandI (x y : Int) : Int := (Int32.ofInt x &&& Int32.ofInt y).toInt
def oorI (x y : Int) : Int := (Int32.ofInt x ||| Int32.ofInt y).toInt
def oxorI (x y : Int) : Int := (Int32.ofInt x ^^^ Int32.ofInt y).toInt
def oandJ (x y : Int) : Int := (Int64.ofInt x &&& Int64.ofInt y).toInt
def oorJ (x y : Int) : Int := (Int64.ofInt x ||| Int64.ofInt y).toInt
def oxorJ (x y : Int) : Int := (Int64.ofInt x ^^^ Int64.ofInt y).toInt
def oshlI (x y : Int) : Int := (Int32.ofInt x <<< (Int32.ofInt y &&& 31)).toInt
def oshrI (x y : Int) : Int := (Int32.ofInt x >>> (Int32.ofInt y &&& 31)).toInt
def oushrI (x y : Int) : Int := ((Int32.ofInt x).toUInt32 >>> ((Int32.ofInt y).toUInt32 &&& Int32.toUInt32 31)).toInt32.toInt
def oshlJ (x y : Int) : Int := (Int64.ofInt x <<< ((Int32.ofInt y).toInt64 &&& 63)).toInt
def oshrJ (x y : Int) : Int := (Int64.ofInt x >>> ((Int32.ofInt y).toInt64 &&& 63)).toInt
theorem i3_t {z : Int} (h : inI z) : (Int32.ofInt z).toInt = z := Int32.toInt_ofInt_of_le (by omega) (by omega)
theorem i6_t {z : Int} (h : inJ z) : (Int64.ofInt z).toInt = z := Int64.toInt_ofInt_of_le (by omega) (by omega)
theorem i3_add (a b : Int) : Int32.ofInt (a + b) = Int32.ofInt a + Int32.ofInt b := Int32.toInt_inj.1 (by simp)
theorem i3_mul (a b : Int) : Int32.ofInt (a * b) = Int32.ofInt a * Int32.ofInt b := Int32.toInt_inj.1 (by simp)
theorem i3_neg (a : Int) : Int32.ofInt (-a) = -Int32.ofInt a := Int32.toInt_inj.1 (by simp)
theorem i3_sub (a b : Int) : Int32.ofInt (a - b) = Int32.ofInt a - Int32.ofInt b := Int32.toInt_inj.1 (by simp)
theorem i6_add (a b : Int) : Int64.ofInt (a + b) = Int64.ofInt a + Int64.ofInt b := Int64.toInt_inj.1 (by simp)
theorem i6_mul (a b : Int) : Int64.ofInt (a * b) = Int64.ofInt a * Int64.ofInt b := Int64.toInt_inj.1 (by simp)
theorem i6_neg (a : Int) : Int64.ofInt (-a) = -Int64.ofInt a := Int64.toInt_inj.1 (by simp)
theorem i6_sub (a b : Int) : Int64.ofInt (a - b) = Int64.ofInt a - Int64.ofInt b := Int64.toInt_inj.1 (by simp)
theorem i3_lt {a b : Int} (ha : inI a) (hb : inI b) : (Int32.ofInt a < Int32.ofInt b) ↔ a < b := by rw [Int32.lt_iff_toInt_lt, i3_t ha, i3_t hb]
theorem i3_le {a b : Int} (ha : inI a) (hb : inI b) : (Int32.ofInt a ≤ Int32.ofInt b) ↔ a ≤ b := by rw [Int32.le_iff_toInt_le, i3_t ha, i3_t hb]
theorem i3_eq {a b : Int} (ha : inI a) (hb : inI b) : (Int32.ofInt a = Int32.ofInt b) ↔ a = b := by rw [← Int32.toInt_inj, i3_t ha, i3_t hb]
theorem i6_lt {a b : Int} (ha : inJ a) (hb : inJ b) : (Int64.ofInt a < Int64.ofInt b) ↔ a < b := by rw [Int64.lt_iff_toInt_lt, i6_t ha, i6_t hb]
theorem i6_le {a b : Int} (ha : inJ a) (hb : inJ b) : (Int64.ofInt a ≤ Int64.ofInt b) ↔ a ≤ b := by rw [Int64.le_iff_toInt_le, i6_t ha, i6_t hb]
theorem i6_eq {a b : Int} (ha : inJ a) (hb : inJ b) : (Int64.ofInt a = Int64.ofInt b) ↔ a = b := by rw [← Int64.toInt_inj, i6_t ha, i6_t hb]
theorem i6_div {x y : Int} (hx : inJ x) (hy : inJ y) (hm : x ≠ -9223372036854775808) : Int64.ofInt x / Int64.ofInt y = Int64.ofInt (x.tdiv y) := by
  rw [← Int64.ofInt_toInt (Int64.ofInt x / Int64.ofInt y), Int64.toInt_div_of_ne_left, i6_t hx, i6_t hy]
  intro q
  have := congrArg Int64.toInt q
  rw [i6_t hx] at this
  exact hm this
theorem i3_div {x y : Int} (hx : inI x) (hy : inI y) (hm : x ≠ -2147483648) : Int32.ofInt x / Int32.ofInt y = Int32.ofInt (x.tdiv y) := by
  rw [← Int32.ofInt_toInt (Int32.ofInt x / Int32.ofInt y), Int32.toInt_div_of_ne_left, i3_t hx, i3_t hy]
  intro q
  have := congrArg Int32.toInt q
  rw [i3_t hx] at this
  exact hm this
theorem i6_rem {x y : Int} (hx : inJ x) (hy : inJ y) (hm : x ≠ -9223372036854775808) : Int64.ofInt x - Int64.ofInt x / Int64.ofInt y * Int64.ofInt y = Int64.ofInt (x.tmod y) := by
  rw [i6_div hx hy hm, ← i6_mul, ← i6_sub, Int.tmod_def, Int.mul_comm]
theorem i3_rem {x y : Int} (hx : inI x) (hy : inI y) (hm : x ≠ -2147483648) : Int32.ofInt x - Int32.ofInt x / Int32.ofInt y * Int32.ofInt y = Int32.ofInt (x.tmod y) := by
  rw [i3_div hx hy hm, ← i3_mul, ← i3_sub, Int.tmod_def, Int.mul_comm]
theorem i3_l {z : Int} (h : inI z) : (Int32.ofInt z).toInt64 = Int64.ofInt z := by
  rw [← Int64.ofInt_toInt (Int32.ofInt z).toInt64, Int32.toInt_toInt64, i3_t h]
theorem i6_i {z : Int} (h : inJ z) : (Int64.ofInt z).toInt32 = Int32.ofInt z := by
  rw [← Int32.toInt_inj, Int64.toInt_toInt32, i6_t h, Int32.toInt_ofInt]
theorem i3_ix {z : Int} {n : Nat} (h0 : 0 ≤ z) (h1 : z < n) (hn : n ≤ 2147483647) : ¬ (Int32.ofInt z < 0 ∨ n ≤ (Int32.ofInt z).toNatClampNeg) ∧ (Int32.ofInt z).toNatClampNeg = z.toNat := by
  have hz : inI z := by omega
  have e : (Int32.ofInt z).toNatClampNeg = z.toNat := by unfold Int32.toNatClampNeg; rw [i3_t hz]
  refine ⟨?_, e⟩
  rintro (q | q)
  · have := (i3_lt hz (show inI 0 by omega)).mp q
    omega
  · omega
theorem gI_ok {x y : Int} {u : Unit} (h : gI x y = some u) : inI x ∧ inI y := (ite_s h).1
theorem gJ_ok {x y : Int} {u : Unit} (h : gJ x y = some u) : inJ x ∧ inJ y := (ite_s h).1
set_option maxRecDepth 20000 in
theorem kn_le (k : Nat) : kn k ≤ 2147483647 := by
  rcases Nat.lt_or_ge k 169 with h | h
  · have : ∀ k, k < 169 → kn k ≤ 2147483647 := by decide +kernel
    exact this k h
  · unfold kn
    rw [List.getD_eq_getElem?_getD, List.getElem?_eq_none (by show kt.length ≤ k; rw [show kt.length = 169 from rfl]; exact h)]
    exact Nat.zero_le _
theorem odJ_ok {M : MI} {k : Nat} {i v : Int} (h : odJ M k i = some v) : ldJ (tm M) k (Int32.ofInt i) = some (Int64.ofInt v) := by
  obtain ⟨⟨h1, h2, h3⟩, rfl⟩ := ite_s h
  obtain ⟨a, b⟩ := i3_ix h2 h3 (kn_le k)
  unfold ldJ
  rw [if_pos ⟨h1, a⟩, b]; rfl
theorem odI_ok {M : MI} {k : Nat} {i v : Int} (h : odI M k i = some v) : ldI (tm M) k (Int32.ofInt i) = some (Int32.ofInt v) := by
  obtain ⟨⟨h1, h2, h3⟩, rfl⟩ := ite_s h
  obtain ⟨a, b⟩ := i3_ix h2 h3 (kn_le k)
  unfold ldI
  rw [if_pos ⟨h1, a⟩, b]; rfl
theorem odA_ok {k v : Nat} {i : Int} (h : odA k i = some v) : ldA k (Int32.ofInt i) = some v := by
  obtain ⟨⟨h1, h2, h3⟩, rfl⟩ := ite_s h
  obtain ⟨a, b⟩ := i3_ix h2 h3 (kn_le k)
  unfold ldA
  rw [if_pos ⟨h1, a⟩, b]
theorem tm_sJ (M : MI) (k j : Nat) (x : Int) : sJ (tm M) k j (Int64.ofInt x) = tm (oJ M k j x) := by
  unfold sJ tm oJ
  refine Prod.ext (funext (fun a => ?_)) rfl
  dsimp only
  by_cases h : a = k
  · rw [if_pos h]; funext i; rw [if_pos h]; unfold vp_updL
    by_cases hi : i = j
    · simp [hi]
    · simp [hi]
  · rw [if_neg h]; funext i; rw [if_neg h]
theorem tm_sI (M : MI) (k j : Nat) (x : Int) : sI (tm M) k j (Int32.ofInt x) = tm (oI M k j x) := by
  unfold sI tm oI
  refine Prod.ext rfl (funext (fun a => ?_))
  dsimp only
  by_cases h : a = k
  · rw [if_pos h]; funext i; rw [if_pos h]; unfold upd
    by_cases hi : i = j
    · simp [hi]
    · simp [hi]
  · rw [if_neg h]; funext i; rw [if_neg h]
theorem osJ_ok {M M' : MI} {k : Nat} {i x : Int} (h : osJ M k i x = some M') : stJ (tm M) k (Int32.ofInt i) (Int64.ofInt x) = some (tm M') := by
  obtain ⟨⟨h1, h2, h3⟩, rfl⟩ := ite_s h
  obtain ⟨a, b⟩ := i3_ix h2 h3 (kn_le k)
  unfold stJ
  rw [if_pos ⟨h1, a⟩, b, tm_sJ]
theorem osI_ok {M M' : MI} {k : Nat} {i x : Int} (h : osI M k i x = some M') : stI (tm M) k (Int32.ofInt i) (Int32.ofInt x) = some (tm M') := by
  obtain ⟨⟨h1, h2, h3⟩, rfl⟩ := ite_s h
  obtain ⟨a, b⟩ := i3_ix h2 h3 (kn_le k)
  unfold stI
  rw [if_pos ⟨h1, a⟩, b, tm_sI]
theorem nI_o (n : Nat) : nI n = Int32.ofInt (n : Int) := Int32.ofInt_eq_ofNat.symm
theorem olA_ok {k : Nat} {v : Int} (h : olA k = some v) : lnA k = some (Int32.ofInt v) := by
  obtain ⟨h1, rfl⟩ := ite_s h
  unfold lnA
  rw [if_pos h1, nI_o]
theorem obz_ok {r v : Int} (h : obz r = some v) : v = r ∧ narrow .boolean (.int (Int32.ofInt r)) = .int (Int32.ofInt r) := by
  obtain ⟨h1, rfl⟩ := ite_s h
  refine ⟨rfl, ?_⟩
  rcases h1 with rfl | rfl <;> rfl

section ORows
variable {p : Program} {l : Launch} {e : Env} {R : Room} {s : State} {m : MethodId} {args : Array Value} {below : List Frame} {meth : Method} {c : Code} {H : Heap} {locs : List Loc} {cells slots : Nat} {Q : State → Prop}
variable {cc : ByteArray} {pc : Nat} {ls : Array Slot} {rest : List Value} {G : gG} {A : Nat → Prop} {adr : Nat → Nat} {H0 : Heap} {M : MI} {k : Nat}

theorem o_iadd (hx : p.tables.exec = Jvm.exec) (hb : c.code = cc) {x y : Int} (hdg : decode cc pc = .ok (.iadd, 1)) (kk : W p l e R s m args below meth c H locs cells slots Q (F0 m (pc + 1) ls (.int (Int32.ofInt (x + y)) :: rest))) : W p l e R s m args below meth c H locs cells slots Q (F0 m pc ls (.int (Int32.ofInt y) :: .int (Int32.ofInt x) :: rest)) := lv_iadd hx hb hdg (by rw [← i3_add]; exact kk)

theorem o_isub (hx : p.tables.exec = Jvm.exec) (hb : c.code = cc) {x y : Int} (hdg : decode cc pc = .ok (.isub, 1)) (kk : W p l e R s m args below meth c H locs cells slots Q (F0 m (pc + 1) ls (.int (Int32.ofInt (x - y)) :: rest))) : W p l e R s m args below meth c H locs cells slots Q (F0 m pc ls (.int (Int32.ofInt y) :: .int (Int32.ofInt x) :: rest)) := lv_isub hx hb hdg (by rw [← i3_sub]; exact kk)

theorem o_imul (hx : p.tables.exec = Jvm.exec) (hb : c.code = cc) {x y : Int} (hdg : decode cc pc = .ok (.imul, 1)) (kk : W p l e R s m args below meth c H locs cells slots Q (F0 m (pc + 1) ls (.int (Int32.ofInt (x * y)) :: rest))) : W p l e R s m args below meth c H locs cells slots Q (F0 m pc ls (.int (Int32.ofInt y) :: .int (Int32.ofInt x) :: rest)) := lv_imul hx hb hdg (by rw [← i3_mul]; exact kk)

theorem o_iand (hx : p.tables.exec = Jvm.exec) (hb : c.code = cc) {x y : Int} (hdg : decode cc pc = .ok (.iand, 1)) (kk : W p l e R s m args below meth c H locs cells slots Q (F0 m (pc + 1) ls (.int (Int32.ofInt (oandI x y)) :: rest))) : W p l e R s m args below meth c H locs cells slots Q (F0 m pc ls (.int (Int32.ofInt y) :: .int (Int32.ofInt x) :: rest)) := lv_iand hx hb hdg (by have kk := kk; unfold oandI at kk; rw [Int32.ofInt_toInt] at kk; exact kk)

theorem o_ior (hx : p.tables.exec = Jvm.exec) (hb : c.code = cc) {x y : Int} (hdg : decode cc pc = .ok (.ior, 1)) (kk : W p l e R s m args below meth c H locs cells slots Q (F0 m (pc + 1) ls (.int (Int32.ofInt (oorI x y)) :: rest))) : W p l e R s m args below meth c H locs cells slots Q (F0 m pc ls (.int (Int32.ofInt y) :: .int (Int32.ofInt x) :: rest)) := lv_ior hx hb hdg (by have kk := kk; unfold oorI at kk; rw [Int32.ofInt_toInt] at kk; exact kk)

theorem o_ixor (hx : p.tables.exec = Jvm.exec) (hb : c.code = cc) {x y : Int} (hdg : decode cc pc = .ok (.ixor, 1)) (kk : W p l e R s m args below meth c H locs cells slots Q (F0 m (pc + 1) ls (.int (Int32.ofInt (oxorI x y)) :: rest))) : W p l e R s m args below meth c H locs cells slots Q (F0 m pc ls (.int (Int32.ofInt y) :: .int (Int32.ofInt x) :: rest)) := lv_ixor hx hb hdg (by have kk := kk; unfold oxorI at kk; rw [Int32.ofInt_toInt] at kk; exact kk)

theorem o_ineg (hx : p.tables.exec = Jvm.exec) (hb : c.code = cc) {x : Int} (hdg : decode cc pc = .ok (.ineg, 1)) (kk : W p l e R s m args below meth c H locs cells slots Q (F0 m (pc + 1) ls (.int (Int32.ofInt (-x)) :: rest))) : W p l e R s m args below meth c H locs cells slots Q (F0 m pc ls (.int (Int32.ofInt x) :: rest)) := lv_ineg hx hb hdg (by rw [← i3_neg]; exact kk)

theorem o_idiv (hx : p.tables.exec = Jvm.exec) (hb : c.code = cc) {x y z : Int} (h : oqI x y = some z) (hdg : decode cc pc = .ok (.idiv, 1)) (kk : W p l e R s m args below meth c H locs cells slots Q (F0 m (pc + 1) ls (.int (Int32.ofInt z) :: rest))) : W p l e R s m args below meth c H locs cells slots Q (F0 m pc ls (.int (Int32.ofInt y) :: .int (Int32.ofInt x) :: rest)) := by
  obtain ⟨⟨h1, h2, h3, h4⟩, rfl⟩ := ite_s h
  refine lv_idiv hx hb hdg (fun q => h3 ((i3_eq h2 (by omega)).mp q)) ?_
  rw [i3_div h1 h2 h4]; exact kk

theorem o_irem (hx : p.tables.exec = Jvm.exec) (hb : c.code = cc) {x y z : Int} (h : orI x y = some z) (hdg : decode cc pc = .ok (.irem, 1)) (kk : W p l e R s m args below meth c H locs cells slots Q (F0 m (pc + 1) ls (.int (Int32.ofInt z) :: rest))) : W p l e R s m args below meth c H locs cells slots Q (F0 m pc ls (.int (Int32.ofInt y) :: .int (Int32.ofInt x) :: rest)) := by
  obtain ⟨⟨h1, h2, h3, h4⟩, rfl⟩ := ite_s h
  refine lv_irem hx hb hdg (fun q => h3 ((i3_eq h2 (by omega)).mp q)) ?_
  rw [i3_rem h1 h2 h4]; exact kk

theorem o_ladd (hx : p.tables.exec = Jvm.exec) (hb : c.code = cc) {x y : Int} (hdg : decode cc pc = .ok (.ladd, 1)) (kk : W p l e R s m args below meth c H locs cells slots Q (F0 m (pc + 1) ls (.long (Int64.ofInt (x + y)) :: rest))) : W p l e R s m args below meth c H locs cells slots Q (F0 m pc ls (.long (Int64.ofInt y) :: .long (Int64.ofInt x) :: rest)) := lv_ladd hx hb hdg (by rw [← i6_add]; exact kk)

theorem o_lsub (hx : p.tables.exec = Jvm.exec) (hb : c.code = cc) {x y : Int} (hdg : decode cc pc = .ok (.lsub, 1)) (kk : W p l e R s m args below meth c H locs cells slots Q (F0 m (pc + 1) ls (.long (Int64.ofInt (x - y)) :: rest))) : W p l e R s m args below meth c H locs cells slots Q (F0 m pc ls (.long (Int64.ofInt y) :: .long (Int64.ofInt x) :: rest)) := lv_lsub hx hb hdg (by rw [← i6_sub]; exact kk)

theorem o_lmul (hx : p.tables.exec = Jvm.exec) (hb : c.code = cc) {x y : Int} (hdg : decode cc pc = .ok (.lmul, 1)) (kk : W p l e R s m args below meth c H locs cells slots Q (F0 m (pc + 1) ls (.long (Int64.ofInt (x * y)) :: rest))) : W p l e R s m args below meth c H locs cells slots Q (F0 m pc ls (.long (Int64.ofInt y) :: .long (Int64.ofInt x) :: rest)) := lv_lmul hx hb hdg (by rw [← i6_mul]; exact kk)

theorem o_land (hx : p.tables.exec = Jvm.exec) (hb : c.code = cc) {x y : Int} (hdg : decode cc pc = .ok (.land, 1)) (kk : W p l e R s m args below meth c H locs cells slots Q (F0 m (pc + 1) ls (.long (Int64.ofInt (oandJ x y)) :: rest))) : W p l e R s m args below meth c H locs cells slots Q (F0 m pc ls (.long (Int64.ofInt y) :: .long (Int64.ofInt x) :: rest)) := lv_land hx hb hdg (by have kk := kk; unfold oandJ at kk; rw [Int64.ofInt_toInt] at kk; exact kk)

theorem o_lor (hx : p.tables.exec = Jvm.exec) (hb : c.code = cc) {x y : Int} (hdg : decode cc pc = .ok (.lor, 1)) (kk : W p l e R s m args below meth c H locs cells slots Q (F0 m (pc + 1) ls (.long (Int64.ofInt (oorJ x y)) :: rest))) : W p l e R s m args below meth c H locs cells slots Q (F0 m pc ls (.long (Int64.ofInt y) :: .long (Int64.ofInt x) :: rest)) := lv_lor hx hb hdg (by have kk := kk; unfold oorJ at kk; rw [Int64.ofInt_toInt] at kk; exact kk)

theorem o_lxor (hx : p.tables.exec = Jvm.exec) (hb : c.code = cc) {x y : Int} (hdg : decode cc pc = .ok (.lxor, 1)) (kk : W p l e R s m args below meth c H locs cells slots Q (F0 m (pc + 1) ls (.long (Int64.ofInt (oxorJ x y)) :: rest))) : W p l e R s m args below meth c H locs cells slots Q (F0 m pc ls (.long (Int64.ofInt y) :: .long (Int64.ofInt x) :: rest)) := lv_lxor hx hb hdg (by have kk := kk; unfold oxorJ at kk; rw [Int64.ofInt_toInt] at kk; exact kk)

theorem o_lneg (hx : p.tables.exec = Jvm.exec) (hb : c.code = cc) {x : Int} (hdg : decode cc pc = .ok (.lneg, 1)) (kk : W p l e R s m args below meth c H locs cells slots Q (F0 m (pc + 1) ls (.long (Int64.ofInt (-x)) :: rest))) : W p l e R s m args below meth c H locs cells slots Q (F0 m pc ls (.long (Int64.ofInt x) :: rest)) := lv_lneg hx hb hdg (by rw [← i6_neg]; exact kk)

theorem o_ldiv (hx : p.tables.exec = Jvm.exec) (hb : c.code = cc) {x y z : Int} (h : oqJ x y = some z) (hdg : decode cc pc = .ok (.ldiv, 1)) (kk : W p l e R s m args below meth c H locs cells slots Q (F0 m (pc + 1) ls (.long (Int64.ofInt z) :: rest))) : W p l e R s m args below meth c H locs cells slots Q (F0 m pc ls (.long (Int64.ofInt y) :: .long (Int64.ofInt x) :: rest)) := by
  obtain ⟨⟨h1, h2, h3, h4⟩, rfl⟩ := ite_s h
  refine lv_ldiv hx hb hdg (fun q => h3 ((i6_eq h2 (by omega)).mp q)) ?_
  rw [i6_div h1 h2 h4]; exact kk

theorem o_lrem (hx : p.tables.exec = Jvm.exec) (hb : c.code = cc) {x y z : Int} (h : orJ x y = some z) (hdg : decode cc pc = .ok (.lrem, 1)) (kk : W p l e R s m args below meth c H locs cells slots Q (F0 m (pc + 1) ls (.long (Int64.ofInt z) :: rest))) : W p l e R s m args below meth c H locs cells slots Q (F0 m pc ls (.long (Int64.ofInt y) :: .long (Int64.ofInt x) :: rest)) := by
  obtain ⟨⟨h1, h2, h3, h4⟩, rfl⟩ := ite_s h
  refine lv_lrem hx hb hdg (fun q => h3 ((i6_eq h2 (by omega)).mp q)) ?_
  rw [i6_rem h1 h2 h4]; exact kk

theorem o_i2l (hx : p.tables.exec = Jvm.exec) (hb : c.code = cc) {x y : Int} {u : Unit} (h : gI x y = some u) (hdg : decode cc pc = .ok (.i2l, 1)) (kk : W p l e R s m args below meth c H locs cells slots Q (F0 m (pc + 1) ls (.long (Int64.ofInt x) :: rest))) : W p l e R s m args below meth c H locs cells slots Q (F0 m pc ls (.int (Int32.ofInt x) :: rest)) := lv_i2l hx hb hdg (i3_l (gI_ok h).1) kk

theorem o_l2i (hx : p.tables.exec = Jvm.exec) (hb : c.code = cc) {x y : Int} {u : Unit} (h : gJ x y = some u) (hdg : decode cc pc = .ok (.l2i, 1)) (kk : W p l e R s m args below meth c H locs cells slots Q (F0 m (pc + 1) ls (.int (Int32.ofInt x) :: rest))) : W p l e R s m args below meth c H locs cells slots Q (F0 m pc ls (.long (Int64.ofInt x) :: rest)) := lv_l2i hx hb hdg (i6_i (gJ_ok h).1) kk

theorem o_ishl (hx : p.tables.exec = Jvm.exec) (hb : c.code = cc) {x y : Int} (hdg : decode cc pc = .ok (.ishl, 1)) (kk : W p l e R s m args below meth c H locs cells slots Q (F0 m (pc + 1) ls (.int (Int32.ofInt (oshlI x y)) :: rest))) : W p l e R s m args below meth c H locs cells slots Q (F0 m pc ls (.int (Int32.ofInt y) :: .int (Int32.ofInt x) :: rest)) := lv_ishl hx hb hdg (by have kk := kk; unfold oshlI at kk; rw [Int32.ofInt_toInt] at kk; exact kk)

theorem o_lshl (hx : p.tables.exec = Jvm.exec) (hb : c.code = cc) {x y : Int} (hdg : decode cc pc = .ok (.lshl, 1)) (kk : W p l e R s m args below meth c H locs cells slots Q (F0 m (pc + 1) ls (.long (Int64.ofInt (oshlJ x y)) :: rest))) : W p l e R s m args below meth c H locs cells slots Q (F0 m pc ls (.int (Int32.ofInt y) :: .long (Int64.ofInt x) :: rest)) := lv_lshl hx hb hdg (by unfold oshlJ; rw [Int64.ofInt_toInt]) kk

theorem o_ishr (hx : p.tables.exec = Jvm.exec) (hb : c.code = cc) {x y : Int} (hdg : decode cc pc = .ok (.ishr, 1)) (kk : W p l e R s m args below meth c H locs cells slots Q (F0 m (pc + 1) ls (.int (Int32.ofInt (oshrI x y)) :: rest))) : W p l e R s m args below meth c H locs cells slots Q (F0 m pc ls (.int (Int32.ofInt y) :: .int (Int32.ofInt x) :: rest)) := lv_ishr hx hb hdg (by have kk := kk; unfold oshrI at kk; rw [Int32.ofInt_toInt] at kk; exact kk)

theorem o_lshr (hx : p.tables.exec = Jvm.exec) (hb : c.code = cc) {x y : Int} (hdg : decode cc pc = .ok (.lshr, 1)) (kk : W p l e R s m args below meth c H locs cells slots Q (F0 m (pc + 1) ls (.long (Int64.ofInt (oshrJ x y)) :: rest))) : W p l e R s m args below meth c H locs cells slots Q (F0 m pc ls (.int (Int32.ofInt y) :: .long (Int64.ofInt x) :: rest)) := lv_lshr hx hb hdg (by unfold oshrJ; rw [Int64.ofInt_toInt]) kk

theorem o_iushr (hx : p.tables.exec = Jvm.exec) (hb : c.code = cc) {x y : Int} (hdg : decode cc pc = .ok (.iushr, 1)) (kk : W p l e R s m args below meth c H locs cells slots Q (F0 m (pc + 1) ls (.int (Int32.ofInt (oushrI x y)) :: rest))) : W p l e R s m args below meth c H locs cells slots Q (F0 m pc ls (.int (Int32.ofInt y) :: .int (Int32.ofInt x) :: rest)) := lv_iushr hx hb hdg (by unfold oushrI; rw [Int32.ofInt_toInt]) kk

theorem o_icmp_eq (hx : p.tables.exec = Jvm.exec) (hb : c.code = cc) {x y : Int} {u : Unit} (h : gI x y = some u) {off : Int} {tgt : Nat} (hdg : decode cc pc = .ok (.if_icmp .eq off, 3)) (ht : (pc : Int) + off = (tgt : Int)) (kt : (x = y) → W p l e R s m args below meth c H locs cells slots Q (F0 m tgt ls rest)) (kf : ¬ (x = y) → W p l e R s m args below meth c H locs cells slots Q (F0 m (pc + 3) ls rest)) : W p l e R s m args below meth c H locs cells slots Q (F0 m pc ls (.int (Int32.ofInt y) :: .int (Int32.ofInt x) :: rest)) := lv_icmp_eq hx hb hdg ht (fun q => kt ((i3_eq (gI_ok h).1 (gI_ok h).2).mp q)) (fun q => kf (fun z => q ((i3_eq (gI_ok h).1 (gI_ok h).2).mpr z)))

theorem o_if_eq (hx : p.tables.exec = Jvm.exec) (hb : c.code = cc) {x : Int} {u : Unit} (h : gI x 0 = some u) {off : Int} {tgt : Nat} (hdg : decode cc pc = .ok (.ifCond .eq off, 3)) (ht : (pc : Int) + off = (tgt : Int)) (kt : (x = 0) → W p l e R s m args below meth c H locs cells slots Q (F0 m tgt ls rest)) (kf : ¬ (x = 0) → W p l e R s m args below meth c H locs cells slots Q (F0 m (pc + 3) ls rest)) : W p l e R s m args below meth c H locs cells slots Q (F0 m pc ls (.int (Int32.ofInt x) :: rest)) := lv_if_eq hx hb hdg ht (fun q => kt ((i3_eq (gI_ok h).1 (show inI 0 by omega)).mp q)) (fun q => kf (fun z => q ((i3_eq (gI_ok h).1 (show inI 0 by omega)).mpr z)))

theorem o_lcmp_eq (hx : p.tables.exec = Jvm.exec) (hb : c.code = cc) {x y : Int} {u : Unit} (h : gJ x y = some u) {off : Int} {tgt : Nat} (hd0 : decode cc pc = .ok (.lcmp, 1)) (hdg : decode cc (pc + 1) = .ok (.ifCond .eq off, 3)) (ht : ((pc + 1 : Nat) : Int) + off = (tgt : Int)) (kt : (x = y) → W p l e R s m args below meth c H locs cells slots Q (F0 m tgt ls rest)) (kf : ¬ (x = y) → W p l e R s m args below meth c H locs cells slots Q (F0 m (pc + 4) ls rest)) : W p l e R s m args below meth c H locs cells slots Q (F0 m pc ls (.long (Int64.ofInt y) :: .long (Int64.ofInt x) :: rest)) := m_lcmp_eq hx hb hd0 hdg ht (fun q => kt ((i6_eq (gJ_ok h).1 (gJ_ok h).2).mp q)) (fun q => kf (fun z => q ((i6_eq (gJ_ok h).1 (gJ_ok h).2).mpr z)))

theorem o_icmp_ne (hx : p.tables.exec = Jvm.exec) (hb : c.code = cc) {x y : Int} {u : Unit} (h : gI x y = some u) {off : Int} {tgt : Nat} (hdg : decode cc pc = .ok (.if_icmp .ne off, 3)) (ht : (pc : Int) + off = (tgt : Int)) (kt : ¬ (x = y) → W p l e R s m args below meth c H locs cells slots Q (F0 m tgt ls rest)) (kf : (x = y) → W p l e R s m args below meth c H locs cells slots Q (F0 m (pc + 3) ls rest)) : W p l e R s m args below meth c H locs cells slots Q (F0 m pc ls (.int (Int32.ofInt y) :: .int (Int32.ofInt x) :: rest)) := lv_icmp_ne hx hb hdg ht (fun q => kt (fun z => q ((i3_eq (gI_ok h).1 (gI_ok h).2).mpr z))) (fun q => kf ((i3_eq (gI_ok h).1 (gI_ok h).2).mp q))

theorem o_if_ne (hx : p.tables.exec = Jvm.exec) (hb : c.code = cc) {x : Int} {u : Unit} (h : gI x 0 = some u) {off : Int} {tgt : Nat} (hdg : decode cc pc = .ok (.ifCond .ne off, 3)) (ht : (pc : Int) + off = (tgt : Int)) (kt : ¬ (x = 0) → W p l e R s m args below meth c H locs cells slots Q (F0 m tgt ls rest)) (kf : (x = 0) → W p l e R s m args below meth c H locs cells slots Q (F0 m (pc + 3) ls rest)) : W p l e R s m args below meth c H locs cells slots Q (F0 m pc ls (.int (Int32.ofInt x) :: rest)) := lv_if_ne hx hb hdg ht (fun q => kt (fun z => q ((i3_eq (gI_ok h).1 (show inI 0 by omega)).mpr z))) (fun q => kf ((i3_eq (gI_ok h).1 (show inI 0 by omega)).mp q))

theorem o_lcmp_ne (hx : p.tables.exec = Jvm.exec) (hb : c.code = cc) {x y : Int} {u : Unit} (h : gJ x y = some u) {off : Int} {tgt : Nat} (hd0 : decode cc pc = .ok (.lcmp, 1)) (hdg : decode cc (pc + 1) = .ok (.ifCond .ne off, 3)) (ht : ((pc + 1 : Nat) : Int) + off = (tgt : Int)) (kt : ¬ (x = y) → W p l e R s m args below meth c H locs cells slots Q (F0 m tgt ls rest)) (kf : (x = y) → W p l e R s m args below meth c H locs cells slots Q (F0 m (pc + 4) ls rest)) : W p l e R s m args below meth c H locs cells slots Q (F0 m pc ls (.long (Int64.ofInt y) :: .long (Int64.ofInt x) :: rest)) := m_lcmp_ne hx hb hd0 hdg ht (fun q => kt (fun z => q ((i6_eq (gJ_ok h).1 (gJ_ok h).2).mpr z))) (fun q => kf ((i6_eq (gJ_ok h).1 (gJ_ok h).2).mp q))

theorem o_icmp_lt (hx : p.tables.exec = Jvm.exec) (hb : c.code = cc) {x y : Int} {u : Unit} (h : gI x y = some u) {off : Int} {tgt : Nat} (hdg : decode cc pc = .ok (.if_icmp .lt off, 3)) (ht : (pc : Int) + off = (tgt : Int)) (kt : (x < y) → W p l e R s m args below meth c H locs cells slots Q (F0 m tgt ls rest)) (kf : ¬ (x < y) → W p l e R s m args below meth c H locs cells slots Q (F0 m (pc + 3) ls rest)) : W p l e R s m args below meth c H locs cells slots Q (F0 m pc ls (.int (Int32.ofInt y) :: .int (Int32.ofInt x) :: rest)) := lv_icmp_lt hx hb hdg ht (fun q => kt ((i3_lt (gI_ok h).1 (gI_ok h).2).mp q)) (fun q => kf (fun z => q ((i3_lt (gI_ok h).1 (gI_ok h).2).mpr z)))

theorem o_if_lt (hx : p.tables.exec = Jvm.exec) (hb : c.code = cc) {x : Int} {u : Unit} (h : gI x 0 = some u) {off : Int} {tgt : Nat} (hdg : decode cc pc = .ok (.ifCond .lt off, 3)) (ht : (pc : Int) + off = (tgt : Int)) (kt : (x < 0) → W p l e R s m args below meth c H locs cells slots Q (F0 m tgt ls rest)) (kf : ¬ (x < 0) → W p l e R s m args below meth c H locs cells slots Q (F0 m (pc + 3) ls rest)) : W p l e R s m args below meth c H locs cells slots Q (F0 m pc ls (.int (Int32.ofInt x) :: rest)) := lv_if_lt hx hb hdg ht (fun q => kt ((i3_lt (gI_ok h).1 (show inI 0 by omega)).mp q)) (fun q => kf (fun z => q ((i3_lt (gI_ok h).1 (show inI 0 by omega)).mpr z)))

theorem o_lcmp_lt (hx : p.tables.exec = Jvm.exec) (hb : c.code = cc) {x y : Int} {u : Unit} (h : gJ x y = some u) {off : Int} {tgt : Nat} (hd0 : decode cc pc = .ok (.lcmp, 1)) (hdg : decode cc (pc + 1) = .ok (.ifCond .lt off, 3)) (ht : ((pc + 1 : Nat) : Int) + off = (tgt : Int)) (kt : (x < y) → W p l e R s m args below meth c H locs cells slots Q (F0 m tgt ls rest)) (kf : ¬ (x < y) → W p l e R s m args below meth c H locs cells slots Q (F0 m (pc + 4) ls rest)) : W p l e R s m args below meth c H locs cells slots Q (F0 m pc ls (.long (Int64.ofInt y) :: .long (Int64.ofInt x) :: rest)) := m_lcmp_lt hx hb hd0 hdg ht (fun q => kt ((i6_lt (gJ_ok h).1 (gJ_ok h).2).mp q)) (fun q => kf (fun z => q ((i6_lt (gJ_ok h).1 (gJ_ok h).2).mpr z)))

theorem o_icmp_ge (hx : p.tables.exec = Jvm.exec) (hb : c.code = cc) {x y : Int} {u : Unit} (h : gI x y = some u) {off : Int} {tgt : Nat} (hdg : decode cc pc = .ok (.if_icmp .ge off, 3)) (ht : (pc : Int) + off = (tgt : Int)) (kt : (y ≤ x) → W p l e R s m args below meth c H locs cells slots Q (F0 m tgt ls rest)) (kf : ¬ (y ≤ x) → W p l e R s m args below meth c H locs cells slots Q (F0 m (pc + 3) ls rest)) : W p l e R s m args below meth c H locs cells slots Q (F0 m pc ls (.int (Int32.ofInt y) :: .int (Int32.ofInt x) :: rest)) := lv_icmp_ge hx hb hdg ht (fun q => kt ((i3_le (gI_ok h).2 (gI_ok h).1).mp q)) (fun q => kf (fun z => q ((i3_le (gI_ok h).2 (gI_ok h).1).mpr z)))

theorem o_if_ge (hx : p.tables.exec = Jvm.exec) (hb : c.code = cc) {x : Int} {u : Unit} (h : gI x 0 = some u) {off : Int} {tgt : Nat} (hdg : decode cc pc = .ok (.ifCond .ge off, 3)) (ht : (pc : Int) + off = (tgt : Int)) (kt : (0 ≤ x) → W p l e R s m args below meth c H locs cells slots Q (F0 m tgt ls rest)) (kf : ¬ (0 ≤ x) → W p l e R s m args below meth c H locs cells slots Q (F0 m (pc + 3) ls rest)) : W p l e R s m args below meth c H locs cells slots Q (F0 m pc ls (.int (Int32.ofInt x) :: rest)) := lv_if_ge hx hb hdg ht (fun q => kt ((i3_le (show inI 0 by omega) (gI_ok h).1).mp q)) (fun q => kf (fun z => q ((i3_le (show inI 0 by omega) (gI_ok h).1).mpr z)))

theorem o_lcmp_ge (hx : p.tables.exec = Jvm.exec) (hb : c.code = cc) {x y : Int} {u : Unit} (h : gJ x y = some u) {off : Int} {tgt : Nat} (hd0 : decode cc pc = .ok (.lcmp, 1)) (hdg : decode cc (pc + 1) = .ok (.ifCond .ge off, 3)) (ht : ((pc + 1 : Nat) : Int) + off = (tgt : Int)) (kt : (y ≤ x) → W p l e R s m args below meth c H locs cells slots Q (F0 m tgt ls rest)) (kf : ¬ (y ≤ x) → W p l e R s m args below meth c H locs cells slots Q (F0 m (pc + 4) ls rest)) : W p l e R s m args below meth c H locs cells slots Q (F0 m pc ls (.long (Int64.ofInt y) :: .long (Int64.ofInt x) :: rest)) := m_lcmp_ge hx hb hd0 hdg ht (fun q => kt ((i6_le (gJ_ok h).2 (gJ_ok h).1).mp q)) (fun q => kf (fun z => q ((i6_le (gJ_ok h).2 (gJ_ok h).1).mpr z)))

theorem o_icmp_gt (hx : p.tables.exec = Jvm.exec) (hb : c.code = cc) {x y : Int} {u : Unit} (h : gI x y = some u) {off : Int} {tgt : Nat} (hdg : decode cc pc = .ok (.if_icmp .gt off, 3)) (ht : (pc : Int) + off = (tgt : Int)) (kt : (y < x) → W p l e R s m args below meth c H locs cells slots Q (F0 m tgt ls rest)) (kf : ¬ (y < x) → W p l e R s m args below meth c H locs cells slots Q (F0 m (pc + 3) ls rest)) : W p l e R s m args below meth c H locs cells slots Q (F0 m pc ls (.int (Int32.ofInt y) :: .int (Int32.ofInt x) :: rest)) := lv_icmp_gt hx hb hdg ht (fun q => kt ((i3_lt (gI_ok h).2 (gI_ok h).1).mp q)) (fun q => kf (fun z => q ((i3_lt (gI_ok h).2 (gI_ok h).1).mpr z)))

theorem o_if_gt (hx : p.tables.exec = Jvm.exec) (hb : c.code = cc) {x : Int} {u : Unit} (h : gI x 0 = some u) {off : Int} {tgt : Nat} (hdg : decode cc pc = .ok (.ifCond .gt off, 3)) (ht : (pc : Int) + off = (tgt : Int)) (kt : (0 < x) → W p l e R s m args below meth c H locs cells slots Q (F0 m tgt ls rest)) (kf : ¬ (0 < x) → W p l e R s m args below meth c H locs cells slots Q (F0 m (pc + 3) ls rest)) : W p l e R s m args below meth c H locs cells slots Q (F0 m pc ls (.int (Int32.ofInt x) :: rest)) := lv_if_gt hx hb hdg ht (fun q => kt ((i3_lt (show inI 0 by omega) (gI_ok h).1).mp q)) (fun q => kf (fun z => q ((i3_lt (show inI 0 by omega) (gI_ok h).1).mpr z)))

theorem o_lcmp_gt (hx : p.tables.exec = Jvm.exec) (hb : c.code = cc) {x y : Int} {u : Unit} (h : gJ x y = some u) {off : Int} {tgt : Nat} (hd0 : decode cc pc = .ok (.lcmp, 1)) (hdg : decode cc (pc + 1) = .ok (.ifCond .gt off, 3)) (ht : ((pc + 1 : Nat) : Int) + off = (tgt : Int)) (kt : (y < x) → W p l e R s m args below meth c H locs cells slots Q (F0 m tgt ls rest)) (kf : ¬ (y < x) → W p l e R s m args below meth c H locs cells slots Q (F0 m (pc + 4) ls rest)) : W p l e R s m args below meth c H locs cells slots Q (F0 m pc ls (.long (Int64.ofInt y) :: .long (Int64.ofInt x) :: rest)) := m_lcmp_gt hx hb hd0 hdg ht (fun q => kt ((i6_lt (gJ_ok h).2 (gJ_ok h).1).mp q)) (fun q => kf (fun z => q ((i6_lt (gJ_ok h).2 (gJ_ok h).1).mpr z)))

theorem o_icmp_le (hx : p.tables.exec = Jvm.exec) (hb : c.code = cc) {x y : Int} {u : Unit} (h : gI x y = some u) {off : Int} {tgt : Nat} (hdg : decode cc pc = .ok (.if_icmp .le off, 3)) (ht : (pc : Int) + off = (tgt : Int)) (kt : (x ≤ y) → W p l e R s m args below meth c H locs cells slots Q (F0 m tgt ls rest)) (kf : ¬ (x ≤ y) → W p l e R s m args below meth c H locs cells slots Q (F0 m (pc + 3) ls rest)) : W p l e R s m args below meth c H locs cells slots Q (F0 m pc ls (.int (Int32.ofInt y) :: .int (Int32.ofInt x) :: rest)) := lv_icmp_le hx hb hdg ht (fun q => kt ((i3_le (gI_ok h).1 (gI_ok h).2).mp q)) (fun q => kf (fun z => q ((i3_le (gI_ok h).1 (gI_ok h).2).mpr z)))

theorem o_if_le (hx : p.tables.exec = Jvm.exec) (hb : c.code = cc) {x : Int} {u : Unit} (h : gI x 0 = some u) {off : Int} {tgt : Nat} (hdg : decode cc pc = .ok (.ifCond .le off, 3)) (ht : (pc : Int) + off = (tgt : Int)) (kt : (x ≤ 0) → W p l e R s m args below meth c H locs cells slots Q (F0 m tgt ls rest)) (kf : ¬ (x ≤ 0) → W p l e R s m args below meth c H locs cells slots Q (F0 m (pc + 3) ls rest)) : W p l e R s m args below meth c H locs cells slots Q (F0 m pc ls (.int (Int32.ofInt x) :: rest)) := lv_if_le hx hb hdg ht (fun q => kt ((i3_le (gI_ok h).1 (show inI 0 by omega)).mp q)) (fun q => kf (fun z => q ((i3_le (gI_ok h).1 (show inI 0 by omega)).mpr z)))

theorem o_lcmp_le (hx : p.tables.exec = Jvm.exec) (hb : c.code = cc) {x y : Int} {u : Unit} (h : gJ x y = some u) {off : Int} {tgt : Nat} (hd0 : decode cc pc = .ok (.lcmp, 1)) (hdg : decode cc (pc + 1) = .ok (.ifCond .le off, 3)) (ht : ((pc + 1 : Nat) : Int) + off = (tgt : Int)) (kt : (x ≤ y) → W p l e R s m args below meth c H locs cells slots Q (F0 m tgt ls rest)) (kf : ¬ (x ≤ y) → W p l e R s m args below meth c H locs cells slots Q (F0 m (pc + 4) ls rest)) : W p l e R s m args below meth c H locs cells slots Q (F0 m pc ls (.long (Int64.ofInt y) :: .long (Int64.ofInt x) :: rest)) := m_lcmp_le hx hb hd0 hdg ht (fun q => kt ((i6_le (gJ_ok h).1 (gJ_ok h).2).mp q)) (fun q => kf (fun z => q ((i6_le (gJ_ok h).1 (gJ_ok h).2).mpr z)))

theorem o_lald (hx : p.tables.exec = Jvm.exec) (hb : c.code = cc) (hi : adi adr) (hw : wH G A H0 s (LL adr) (wf G adr (tm M)) H locs) {i v : Int} (h : odJ M k i = some v) (hdg : decode cc pc = .ok (.laload, 1)) (kk : W p l e R s m args below meth c H locs cells slots Q (F0 m (pc + 1) ls (.long (Int64.ofInt v) :: rest))) : W p l e R s m args below meth c H locs cells slots Q (F0 m pc ls (.int (Int32.ofInt i) :: .ref (adr k) :: rest)) := m_lald hx hb hi hw (odJ_ok h) hdg kk

theorem o_iald (hx : p.tables.exec = Jvm.exec) (hb : c.code = cc) (hi : adi adr) (hw : wH G A H0 s (LL adr) (wf G adr (tm M)) H locs) {i v : Int} (h : odI M k i = some v) (hdg : decode cc pc = .ok (.iaload, 1)) (kk : W p l e R s m args below meth c H locs cells slots Q (F0 m (pc + 1) ls (.int (Int32.ofInt v) :: rest))) : W p l e R s m args below meth c H locs cells slots Q (F0 m pc ls (.int (Int32.ofInt i) :: .ref (adr k) :: rest)) := m_iald hx hb hi hw (odI_ok h) hdg kk

theorem o_aald (hx : p.tables.exec = Jvm.exec) (hb : c.code = cc) (hi : adi adr) (hw : wH G A H0 s (LL adr) (wf G adr (tm M)) H locs) {i : Int} {v : Nat} (h : odA k i = some v) (hdg : decode cc pc = .ok (.aaload, 1)) (kk : W p l e R s m args below meth c H locs cells slots Q (F0 m (pc + 1) ls (.ref (adr v) :: rest))) : W p l e R s m args below meth c H locs cells slots Q (F0 m pc ls (.int (Int32.ofInt i) :: .ref (adr k) :: rest)) := m_aald hx hb hi hw (odA_ok h) hdg kk

theorem o_len (hx : p.tables.exec = Jvm.exec) (hb : c.code = cc) (hi : adi adr) (hw : wH G A H0 s (LL adr) (wf G adr (tm M)) H locs) {v : Int} (h : olA k = some v) (hdg : decode cc pc = .ok (.arraylength, 1)) (kk : W p l e R s m args below meth c H locs cells slots Q (F0 m (pc + 1) ls (.int (Int32.ofInt v) :: rest))) : W p l e R s m args below meth c H locs cells slots Q (F0 m pc ls (.ref (adr k) :: rest)) := m_len hx hb hi hw (olA_ok h) hdg kk

theorem o_last (hx : p.tables.exec = Jvm.exec) (hb : c.code = cc) (hi : adi adr) (hw : wH G A H0 s (LL adr) (wf G adr (tm M)) H locs) {i x : Int} {M' : MI} (h : osJ M k i x = some M') (hdg : decode cc pc = .ok (.lastore, 1)) (kk : ∀ (H1 : Heap) (locs1 : List Loc), wH G A H0 s (LL adr) (wf G adr (tm M')) H1 locs1 → W p l e R s m args below meth c H1 locs1 cells slots Q (F0 m (pc + 1) ls rest)) : W p l e R s m args below meth c H locs cells slots Q (F0 m pc ls (.long (Int64.ofInt x) :: .int (Int32.ofInt i) :: .ref (adr k) :: rest)) := m_last hx hb hi hw (osJ_ok h) hdg kk

theorem o_iast (hx : p.tables.exec = Jvm.exec) (hb : c.code = cc) (hi : adi adr) (hw : wH G A H0 s (LL adr) (wf G adr (tm M)) H locs) {i x : Int} {M' : MI} (h : osI M k i x = some M') (hdg : decode cc pc = .ok (.iastore, 1)) (kk : ∀ (H1 : Heap) (locs1 : List Loc), wH G A H0 s (LL adr) (wf G adr (tm M')) H1 locs1 → W p l e R s m args below meth c H1 locs1 cells slots Q (F0 m (pc + 1) ls rest)) : W p l e R s m args below meth c H locs cells slots Q (F0 m pc ls (.int (Int32.ofInt x) :: .int (Int32.ofInt i) :: .ref (adr k) :: rest)) := m_iast hx hb hi hw (osI_ok h) hdg kk

theorem o_putI (hx : p.tables.exec = Jvm.exec) (hb : c.code = cc) (hi : adi adr) {own ref C : String} {T : u_T} {N index : Nat} (hts : ∀ w ∈ uU, w.before args s = true) (hin : ∀ w ∈ u_ws C T N, w ∈ uU) (ty0 : Nat → FieldType) (hty : ∀ k, k < N → parseFieldDescriptor (T k).2.2.1 = some (ty0 k)) (hnm : ∀ a, a < N → ∀ b, b < N → a ≠ b → (T a).2.1 ≠ (T b).2.1) (hown : s.vm.findClass own = some m.cls) (hw : wH G A H0 s (LL adr) (wf G adr (tm M)) H locs) (hkd : kd k = 5) (hc : vwCl[kn k]? = some (C, T, N)) (j : Nat) (hj : j < N) (hlink : Cond.fieldLink own index ref (T j).2.1 (T j).2.2.1 ∈ uU) (href : (T j).1 = ref) (hfin : (T j).2.2.2 = false) {v : Int} {M' : MI} (h : opI M k j v = some M') (hd : parseFieldDescriptor (T j).2.2.1 = some .int) (hq : ((kf k)[j]?.map (·.1)) = some 1) (hdg : decode cc pc = .ok (.putfield index, 3))
    (kk : ∀ (H1 : Heap) (locs1 : List Loc), wH G A H0 s (LL adr) (wf G adr (tm M')) H1 locs1 → W p l e R s m args below meth c H1 locs1 cells slots Q (F0 m (pc + 3) ls rest)) : W p l e R s m args below meth c H locs cells slots Q (F0 m pc ls (.int (Int32.ofInt v) :: .ref (adr k) :: rest)) := by
  obtain rfl := (Option.some.inj h)
  refine m_putI hx hb hi hts hin ty0 hty hnm hown hw hkd hc j hj hlink href hfin hd hq hdg (fun H1 locs1 h1 => kk H1 locs1 ?_)
  rw [← tm_sI]; exact h1

theorem o_putJ (hx : p.tables.exec = Jvm.exec) (hb : c.code = cc) (hi : adi adr) {own ref C : String} {T : u_T} {N index : Nat} (hts : ∀ w ∈ uU, w.before args s = true) (hin : ∀ w ∈ u_ws C T N, w ∈ uU) (ty0 : Nat → FieldType) (hty : ∀ k, k < N → parseFieldDescriptor (T k).2.2.1 = some (ty0 k)) (hnm : ∀ a, a < N → ∀ b, b < N → a ≠ b → (T a).2.1 ≠ (T b).2.1) (hown : s.vm.findClass own = some m.cls) (hw : wH G A H0 s (LL adr) (wf G adr (tm M)) H locs) (hkd : kd k = 5) (hc : vwCl[kn k]? = some (C, T, N)) (j : Nat) (hj : j < N) (hlink : Cond.fieldLink own index ref (T j).2.1 (T j).2.2.1 ∈ uU) (href : (T j).1 = ref) (hfin : (T j).2.2.2 = false) {v : Int} {M' : MI} (h : opJ M k j v = some M') (hd : parseFieldDescriptor (T j).2.2.1 = some .long) (hq : ((kf k)[j]?.map (·.1)) = some 2) (hdg : decode cc pc = .ok (.putfield index, 3))
    (kk : ∀ (H1 : Heap) (locs1 : List Loc), wH G A H0 s (LL adr) (wf G adr (tm M')) H1 locs1 → W p l e R s m args below meth c H1 locs1 cells slots Q (F0 m (pc + 3) ls rest)) : W p l e R s m args below meth c H locs cells slots Q (F0 m pc ls (.long (Int64.ofInt v) :: .ref (adr k) :: rest)) := by
  obtain rfl := (Option.some.inj h)
  refine m_putJ hx hb hi hts hin ty0 hty hnm hown hw hkd hc j hj hlink href hfin hd hq hdg (fun H1 locs1 h1 => kk H1 locs1 ?_)
  rw [← tm_sJ]; exact h1

end ORows

theorem nb0 : narrow .boolean (.int (Int32.ofInt 0)) = .int (Int32.ofInt 0) := by decide
theorem nb1 : narrow .boolean (.int (Int32.ofInt 1)) = .int (Int32.ofInt 1) := by decide

theorem inc_o (x n : Int) : Int32.ofInt x + Int32.ofInt n = Int32.ofInt (x + n) := (i3_add x n).symm
