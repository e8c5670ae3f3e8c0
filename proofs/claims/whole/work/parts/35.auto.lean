/-! conditions decided by arithmetic, loops -/
theorem inb {i n : Int} (h1 : 0 ≤ i) (h2 : i < n) : (0 ≤ i ∧ i < n) = True := by simp [h1, h2]
theorem le_t {a b : Int} (h : a ≤ b) : (a ≤ b) = True := by simp [h]
theorem le_f {a b : Int} (h : ¬ a ≤ b) : (a ≤ b) = False := by simp [h]
theorem lt_t {a b : Int} (h : a < b) : (a < b) = True := by simp [h]
theorem lt_f {a b : Int} (h : ¬ a < b) : (a < b) = False := by simp [h]
theorem eq_t {a b : Int} (h : a = b) : (a = b) = True := by simp [h]
theorem eq_f {a b : Int} (h : ¬ a = b) : (a = b) = False := by simp [h]
theorem nq_t {a b : Nat} (h : a = b) : (a = b) = True := by simp [h]
theorem nq_f {a b : Nat} (h : ¬ a = b) : (a = b) = False := by simp [h]
theorem and_id {p : Prop} (h : p) {q : Prop} : (p ∧ q) = q := by simp [h]
theorem lp {α : Type} {n : Nat} (F : Nat → α → PQ → Prop) (Inv : Nat → α → Prop) (R : (PQ → Prop) → Prop) (step : ∀ i a, i < n → Inv i a → R (F i a) ∨ ∃ a', (∀ Q, F i a Q = F (i + 1) a' Q) ∧ Inv (i + 1) a') (last : ∀ a, Inv n a → R (F n a)) : ∀ (i : Nat) (a : α), i ≤ n → Inv i a → R (F i a) := by
  have key : ∀ (m i : Nat) (a : α), i + m = n → Inv i a → R (F i a) := by
    intro m
    induction m with
    | zero =>
      intro i a h hi
      have : i = n := by omega
      subst this
      exact last a hi
    | succ m ih =>
      intro i a h hi
      rcases step i a (by omega) hi with r | ⟨a', e, hi'⟩
      · exact r
      · have : F i a = F (i + 1) a' := funext e
        rw [this]
        exact ih (i + 1) a' (by omega) hi'
  intro i a h hi
  exact key (n - i) i a (by omega) hi
/-- it comes to r with the cells τ -/
def Ret (G : PQ → Prop) (r : Option PV) (τ : Mem) : Prop := ∀ Q, G Q = Q r τ
/-- a loop of n rounds that changes nothing but its state -/
theorem lpF {α : Type} {n : Nat} (F : Nat → α → PQ → Prop) (f : Nat → α) (step : ∀ i, i < n → ∀ Q, F i (f i) Q = F (i + 1) (f (i + 1)) Q) : ∀ (Q : PQ), F 0 (f 0) Q = F n (f n) Q := by
  have key : ∀ m, m ≤ n → ∀ Q, F 0 (f 0) Q = F m (f m) Q := by
    intro m
    induction m with
    | zero => intro _ Q; rfl
    | succ m ih => intro h Q; rw [ih (by omega), step m (by omega)]
  exact key n (Nat.le_refl n)
theorem lpE {α : Type} {n : Nat} (F : Nat → α → PQ → Prop) (Inv : Nat → α → Prop) (step : ∀ i a, i < n → Inv i a → ∃ a', (∀ Q, F i a Q = F (i + 1) a' Q) ∧ Inv (i + 1) a') {a : α} (h : Inv 0 a) : ∃ a', (∀ Q, F 0 a Q = F n a' Q) ∧ Inv n a' := by
  have key : ∀ m, m ≤ n → ∃ a', (∀ Q, F 0 a Q = F m a' Q) ∧ Inv m a' := by
    intro m
    induction m with
    | zero => intro _; exact ⟨a, fun _ => rfl, h⟩
    | succ m ih =>
      intro hm
      obtain ⟨a', e, hi⟩ := ih (by omega)
      obtain ⟨a2, e2, hi2⟩ := step m a' (by omega) hi
      exact ⟨a2, fun Q => (e Q).trans (e2 Q), hi2⟩
  exact key n (Nat.le_refl n)
/-! bits -/
def pcn (a : Nat) : Nat → Nat
  | 0 => 0
  | n + 1 => pcn a n + (a >>> n &&& 1)
def pc (a : Nat) : Nat := pcn a 16
theorem pcn_le (a n : Nat) : pcn a n ≤ n := by
  induction n with
  | zero => exact Nat.le_refl _
  | succ n ih =>
    have : a >>> n &&& 1 ≤ 1 := Nat.and_le_right
    simp only [pcn]; omega
theorem bit1 {a k : Nat} (ha : a < 2147483648) (hk : k < 32) : and32 (shr32 (a : Int) (k : Int)) 1 = ((a >>> k &&& 1 : Nat) : Int) := by
  rw [shr32_n ha hk, show (1 : Int) = ((1 : Nat) : Int) from rfl, and32_n (by
    have h : a >>> k ≤ a := by rw [Nat.shiftRight_eq_div_pow]; exact Nat.div_le_self _ _
    omega) (by omega)]
theorem x_bits (L : Nat) {a : Nat} (ha : a < 2147483648) (d1 d2 : Option PV) (σ : Mem) (Q : PQ) : X L 145 0 [some (xI (a : Int)), d1, d2] [] σ Q = Q (some (xI (pc a : Int))) σ := by
  have h := lpF (n := 16) (fun i (x : Int) Q => X L 145 4 [some (xI (a : Int)), some (xI x), some (xI (i : Int))] [] σ Q) (fun i => (pcn a i : Int)) (by
    intro i hi Q
    have hb := bit1 ha (show i < 32 by omega)
    have hp := pcn_le a i
    have h1 : a >>> i &&& 1 ≤ 1 := Nat.and_le_right
    show X L 145 4 [some (xI (a : Int)), some (xI (pcn a i : Int)), some (xI (i : Int))] [] σ Q = X L 145 4 [some (xI (a : Int)), some (xI ((pcn a i + (a >>> i &&& 1) : Nat) : Int)), some (xI ((i + 1 : Nat) : Int))] [] σ Q
    rw [e_145_4]
    simp (disch := omega) only [brI, hb, le_f, if_false, w32_id, Int.natCast_add]
    rfl) Q
  rw [e_145_0]
  refine Eq.trans h ?_
  show X L 145 4 [some (xI (a : Int)), some (xI (pcn a 16 : Int)), some (xI (16 : Int))] [] σ Q = _
  rw [e_145_4, e_145_24]
  simp only [brI, Int.le_refl, if_true]
  rfl
