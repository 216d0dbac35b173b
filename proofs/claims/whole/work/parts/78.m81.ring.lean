/-! rings built by hand: polynomials, remainders -/
section MRing
def rnat {α : Type} (add : α → α → α) (zero one : α) : Nat → α
  | 0 => zero
  | 1 => one
  | n + 2 => add (rnat add zero one (n + 1)) one
def rint {α : Type} (add : α → α → α) (neg : α → α) (zero one : α) : Int → α
  | .ofNat n => rnat add zero one n
  | .negSucc n => neg (rnat add zero one (n + 1))
def rpow {α : Type} (mul : α → α → α) (one : α) (a : α) : Nat → α
  | 0 => one
  | n + 1 => mul (rpow mul one a n) a
theorem r_negu {α : Type} {add : α → α → α} {neg : α → α} {zero : α} (a0 : ∀ a, add a zero = a) (ac : ∀ a b, add a b = add b a) (aa : ∀ a b c, add (add a b) c = add a (add b c)) (nc : ∀ a, add (neg a) a = zero) {x y : α} (h : add x y = zero) : x = neg y := by
  have h1 : add (add x y) (neg y) = neg y := by rw [h, ac, a0]
  rw [aa, ac y, nc, a0] at h1
  exact h1
abbrev mkR {α : Type} (add mul : α → α → α) (neg : α → α) (zero one : α)
    (a0 : ∀ a, add a zero = a) (ac : ∀ a b, add a b = add b a) (aa : ∀ a b c, add (add a b) c = add a (add b c))
    (ma : ∀ a b c, mul (mul a b) c = mul a (mul b c)) (m1 : ∀ a, mul a one = a) (mc : ∀ a b, mul a b = mul b a)
    (ld : ∀ a b c, mul a (add b c) = add (mul a b) (mul a c)) (mz : ∀ a, mul zero a = zero) (nc : ∀ a, add (neg a) a = zero) : Lean.Grind.CommRing α :=
  { add := add, mul := mul, neg := neg, sub := fun a b => add a (neg b)
    natCast := ⟨rnat add zero one⟩
    ofNat := fun n => ⟨rnat add zero one n⟩
    nsmul := ⟨fun n a => mul (rnat add zero one n) a⟩
    npow := ⟨fun a n => rpow mul one a n⟩
    intCast := ⟨rint add neg zero one⟩
    zsmul := ⟨fun i a => mul (rint add neg zero one i) a⟩
    add_zero := a0, add_comm := ac, add_assoc := aa, mul_assoc := ma, mul_one := m1, mul_comm := mc
    one_mul := fun a => (mc one a).trans (m1 a)
    left_distrib := ld
    right_distrib := fun a b c => by
      show mul (add a b) c = add (mul a c) (mul b c)
      rw [mc, ld, mc c, mc c]
    zero_mul := mz
    mul_zero := fun a => (mc a zero).trans (mz a)
    pow_zero := fun _ => rfl, pow_succ := fun _ _ => rfl
    ofNat_succ := fun n => by
      show rnat add zero one (n + 1) = add (rnat add zero one n) one
      cases n with
      | zero => exact ((ac zero one).trans (a0 one)).symm
      | succ n => rfl
    ofNat_eq_natCast := fun _ => rfl, nsmul_eq_natCast_mul := fun _ _ => rfl
    neg_add_cancel := nc, sub_eq_add_neg := fun _ _ => rfl
    zsmul_natCast_eq_nsmul := fun _ _ => rfl
    intCast_ofNat := fun _ => rfl
    intCast_neg := fun i => by
      show rint add neg zero one (-i) = neg (rint add neg zero one i)
      match i with
      | .ofNat 0 => exact r_negu a0 ac aa nc (a0 zero)
      | .ofNat (n + 1) => rfl
      | .negSucc n => exact r_negu a0 ac aa nc ((ac _ _).trans (nc _))
    neg_zsmul := fun i a => by
      show mul (rint add neg zero one (-i)) a = neg (mul (rint add neg zero one i) a)
      have h : rint add neg zero one (-i) = neg (rint add neg zero one i) := by
        match i with
        | .ofNat 0 => exact r_negu a0 ac aa nc (a0 zero)
        | .ofNat (n + 1) => rfl
        | .negSucc n => exact r_negu a0 ac aa nc ((ac _ _).trans (nc _))
      rw [h]
      refine r_negu a0 ac aa nc ?_
      rw [mc, mc (rint add neg zero one i), ← ld, nc, mc, mz] }
/-! polynomials -/
abbrev PL (R : Type) [Lean.Grind.CommRing R] : Type := { f : Nat → R // ∃ n, ∀ i, n ≤ i → f i = 0 }
def cmul {R : Type} [Lean.Grind.CommRing R] (f g : Nat → R) (k : Nat) : R := sm (fun i => f i * g (k - i)) (k + 1)
theorem cmul_comm {R : Type} [Lean.Grind.CommRing R] (f g : Nat → R) (k : Nat) : cmul f g k = cmul g f k := by
  unfold cmul
  rw [← sm_rev]
  refine sm_congr (fun i hi => ?_)
  rw [show k - (k - i) = i by omega]; grind
theorem cmul_assoc {R : Type} [Lean.Grind.CommRing R] (f g h : Nat → R) (k : Nat) : cmul (cmul f g) h k = cmul f (cmul g h) k := by
  unfold cmul
  have h1 : sm (fun i => sm (fun j => f j * g (i - j)) (i + 1) * h (k - i)) (k + 1) = sm (fun i => sm (fun j => (fun j l => f j * g l * h (k - j - l)) j (i - j)) (i + 1)) (k + 1) := by
    refine sm_congr (fun i hi => ?_)
    rw [← sm_mulr]
    refine sm_congr (fun j hj => ?_)
    show f j * g (i - j) * h (k - i) = f j * g (i - j) * h (k - j - (i - j))
    rw [show k - j - (i - j) = k - i by omega]
  rw [h1, sm_tri (fun j l => f j * g l * h (k - j - l))]
  refine sm_congr (fun j hj => ?_)
  rw [← sm_mul]
  exact sm_congr (fun l _ => by grind)
theorem cmul_tail {R : Type} [Lean.Grind.CommRing R] {f g : Nat → R} {n m : Nat} (hf : ∀ i, n ≤ i → f i = 0) (hg : ∀ i, m ≤ i → g i = 0) (i : Nat) (hi : n + m ≤ i + 1) : cmul f g i = 0 := by
  refine sm_zero (fun j hj => ?_)
  rcases Nat.lt_or_ge j n with h | h
  · rw [hg (i - j) (by omega)]; grind
  · rw [hf j h]; grind
def plAdd {R : Type} [Lean.Grind.CommRing R] (f g : PL R) : PL R := ⟨fun i => f.1 i + g.1 i, by
  obtain ⟨n, hn⟩ := f.2; obtain ⟨m, hm⟩ := g.2
  exact ⟨n + m, fun i hi => by show f.1 i + g.1 i = 0; rw [hn i (by omega), hm i (by omega)]; grind⟩⟩
def plMul {R : Type} [Lean.Grind.CommRing R] (f g : PL R) : PL R := ⟨cmul f.1 g.1, by
  obtain ⟨n, hn⟩ := f.2; obtain ⟨m, hm⟩ := g.2
  exact ⟨n + m, fun i hi => cmul_tail hn hm i (by omega)⟩⟩
def plNeg {R : Type} [Lean.Grind.CommRing R] (f : PL R) : PL R := ⟨fun i => - f.1 i, by
  obtain ⟨n, hn⟩ := f.2
  exact ⟨n, fun i hi => by show - f.1 i = 0; rw [hn i hi]; grind⟩⟩
/-- a constant times a power of the letter -/
def plM {R : Type} [Lean.Grind.CommRing R] (c : R) (k : Nat) : PL R := ⟨fun i => if i = k then c else 0, ⟨k + 1, fun i hi => if_neg (by omega)⟩⟩
theorem pl_ext {R : Type} [Lean.Grind.CommRing R] {f g : PL R} (h : ∀ i, f.1 i = g.1 i) : f = g := Subtype.ext (funext h)
theorem cmul_one {R : Type} [Lean.Grind.CommRing R] (f : Nat → R) (c : R) (j k : Nat) : cmul f (fun i => if i = j then c else 0) k = if j ≤ k then f (k - j) * c else 0 := by
  unfold cmul
  by_cases h : j ≤ k
  · rw [if_pos h, sm_one (k := k - j) (by omega) (fun i hi hne => by dsimp only; rw [if_neg (by omega)]; grind)]
    dsimp only
    rw [if_pos (by omega)]
  · rw [if_neg h]
    exact sm_zero (fun i hi => by dsimp only; rw [if_neg (by omega)]; grind)
def plR (R : Type) [Lean.Grind.CommRing R] : Lean.Grind.CommRing (PL R) :=
  mkR plAdd plMul plNeg (plM 0 0) (plM 1 0)
    (fun f => pl_ext (fun i => by show f.1 i + (if i = 0 then 0 else 0) = f.1 i; rw [ite_self]; grind))
    (fun f g => pl_ext (fun i => by show f.1 i + g.1 i = g.1 i + f.1 i; grind))
    (fun f g h => pl_ext (fun i => by show f.1 i + g.1 i + h.1 i = f.1 i + (g.1 i + h.1 i); grind))
    (fun f g h => pl_ext (fun i => cmul_assoc f.1 g.1 h.1 i))
    (fun f => pl_ext (fun i => by
      show cmul f.1 (fun i => if i = 0 then 1 else 0) i = f.1 i
      rw [cmul_one, if_pos (Nat.zero_le _), Nat.sub_zero]; grind))
    (fun f g => pl_ext (fun i => cmul_comm f.1 g.1 i))
    (fun f g h => pl_ext (fun i => by
      show cmul f.1 (fun i => g.1 i + h.1 i) i = cmul f.1 g.1 i + cmul f.1 h.1 i
      unfold cmul
      rw [← sm_add]
      exact sm_congr (fun j _ => by grind)))
    (fun f => pl_ext (fun i => by
      show cmul (fun i => if i = 0 then 0 else 0) f.1 i = (if i = 0 then 0 else 0)
      rw [ite_self]
      exact sm_zero (fun j _ => by dsimp only; rw [ite_self]; grind)))
    (fun f => pl_ext (fun i => by
      show - f.1 i + f.1 i = (if i = 0 then 0 else 0)
      rw [ite_self]; grind))
/-! remainders by m -/
def quS {S : Type} [Lean.Grind.CommRing S] (m : S) : Setoid S := ⟨fun a b => ∃ c, a - b = m * c, ⟨fun a => ⟨0, by grind⟩, fun {a b} h => by obtain ⟨c, hc⟩ := h; exact ⟨-c, by grind⟩, fun {a b c} h1 h2 => by obtain ⟨u, hu⟩ := h1; obtain ⟨v, hv⟩ := h2; exact ⟨u + v, by grind⟩⟩⟩
def QU {S : Type} [Lean.Grind.CommRing S] (m : S) : Type := Quotient (quS m)
def qm {S : Type} [Lean.Grind.CommRing S] (m : S) (a : S) : QU m := Quotient.mk (quS m) a
theorem qm_eq {S : Type} [Lean.Grind.CommRing S] {m a b : S} : qm m a = qm m b ↔ ∃ c, a - b = m * c :=
  ⟨fun h => Quotient.exact h, fun h => Quotient.sound h⟩
theorem qm_all {S : Type} [Lean.Grind.CommRing S] {m : S} (x : QU m) : ∃ a, x = qm m a := by
  obtain ⟨a, h⟩ := Quotient.exists_rep x
  exact ⟨a, h.symm⟩
def quAdd {S : Type} [Lean.Grind.CommRing S] {m : S} (x y : QU m) : QU m :=
  Quotient.liftOn₂ x y (fun a b => qm m (a + b)) (fun a b a' b' h1 h2 => by
    obtain ⟨u, hu⟩ := h1; obtain ⟨v, hv⟩ := h2
    exact qm_eq.mpr ⟨u + v, by grind⟩)
def quMul {S : Type} [Lean.Grind.CommRing S] {m : S} (x y : QU m) : QU m :=
  Quotient.liftOn₂ x y (fun a b => qm m (a * b)) (fun a b a' b' h1 h2 => by
    obtain ⟨u, hu⟩ := h1; obtain ⟨v, hv⟩ := h2
    exact qm_eq.mpr ⟨u * b + a' * v, by grind⟩)
def quNeg {S : Type} [Lean.Grind.CommRing S] {m : S} (x : QU m) : QU m :=
  Quotient.liftOn x (fun a => qm m (-a)) (fun a a' h1 => by
    obtain ⟨u, hu⟩ := h1
    exact qm_eq.mpr ⟨-u, by grind⟩)
def quR {S : Type} [Lean.Grind.CommRing S] (m : S) : Lean.Grind.CommRing (QU m) :=
  mkR quAdd quMul quNeg (qm m 0) (qm m 1)
    (fun x => by obtain ⟨a, rfl⟩ := qm_all x; exact congrArg (qm m) (by grind))
    (fun x y => by obtain ⟨a, rfl⟩ := qm_all x; obtain ⟨b, rfl⟩ := qm_all y; exact congrArg (qm m) (by grind))
    (fun x y z => by obtain ⟨a, rfl⟩ := qm_all x; obtain ⟨b, rfl⟩ := qm_all y; obtain ⟨c, rfl⟩ := qm_all z; exact congrArg (qm m) (by grind))
    (fun x y z => by obtain ⟨a, rfl⟩ := qm_all x; obtain ⟨b, rfl⟩ := qm_all y; obtain ⟨c, rfl⟩ := qm_all z; exact congrArg (qm m) (by grind))
    (fun x => by obtain ⟨a, rfl⟩ := qm_all x; exact congrArg (qm m) (by grind))
    (fun x y => by obtain ⟨a, rfl⟩ := qm_all x; obtain ⟨b, rfl⟩ := qm_all y; exact congrArg (qm m) (by grind))
    (fun x y z => by obtain ⟨a, rfl⟩ := qm_all x; obtain ⟨b, rfl⟩ := qm_all y; obtain ⟨c, rfl⟩ := qm_all z; exact congrArg (qm m) (by grind))
    (fun x => by obtain ⟨a, rfl⟩ := qm_all x; exact congrArg (qm m) (by grind))
    (fun x => by obtain ⟨a, rfl⟩ := qm_all x; exact congrArg (qm m) (by grind))
end MRing
