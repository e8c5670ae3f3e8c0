/-! PARTED: who still comes -/
section Come
variable {B : Int} {S σ τ : Mem} {L v : Nat} {T : Ful}
abbrev sbs (x y : Nat) : Prop := ∀ i, x.testBit i = true → y.testBit i = true
abbrev cmC (S : Mem) (c r a k : Nat) : Prop := isr S a (a + 1 + k) ∧ ¬ c.testBit (rix S a k) = true ∧ (r.testBit a = true ∨ r.testBit (a + 1 + k) = true)
def ci (S : Mem) (c a r : Nat) : Nat → Nat
  | 0 => r
  | k + 1 => if cmC S c (ci S c a r k) a k then ci S c a r k ||| (2 ^ a ||| 2 ^ (a + 1 + k)) else ci S c a r k
def co (S : Mem) (c r : Nat) : Nat → Nat
  | 0 => r
  | a + 1 => ci S c a (co S c r a) (5 - a)
def cm (S : Mem) (c t : Nat) : Nat → Nat
  | 0 => 2 ^ t
  | j + 1 => co S c (cm S c t j) 6
theorem tb_or (x y i : Nat) : (x ||| y).testBit i = true ↔ x.testBit i = true ∨ y.testBit i = true := by
  rw [Nat.testBit_or]; simp
theorem tb_pw (a i : Nat) : (2 ^ a).testBit i = true ↔ a = i := by
  rw [Nat.testBit_two_pow]; simp
theorem ci_m (S : Mem) (c a r : Nat) : ∀ k j, sbs (ci S c a r k) (ci S c a r (k + j)) := by
  intro k j
  induction j with
  | zero => intro i h; exact h
  | succ j ih =>
    intro i h
    have h2 := ih i h
    show (if cmC S c (ci S c a r (k + j)) a (k + j) then ci S c a r (k + j) ||| (2 ^ a ||| 2 ^ (a + 1 + (k + j))) else ci S c a r (k + j)).testBit i = true
    split
    · rw [tb_or]; exact Or.inl h2
    · exact h2
theorem co_m (S : Mem) (c r : Nat) : ∀ a j, sbs (co S c r a) (co S c r (a + j)) := by
  intro a j
  induction j with
  | zero => intro i h; exact h
  | succ j ih =>
    intro i h
    have h2 := ci_m S c (a + j) (co S c r (a + j)) 0 (5 - (a + j)) i (ih i h)
    rw [Nat.zero_add] at h2
    exact h2
/-- closed under the roads that are left -/
def cls (S : Mem) (c A : Nat) : Prop := ∀ a k, a + 1 + k < 6 → isr S a (a + 1 + k) → ¬ c.testBit (rix S a k) = true → A.testBit a = A.testBit (a + 1 + k)
theorem ci_i {S : Mem} {c A a r : Nat} (hA : cls S c A) (hr : sbs r A) : ∀ k, a + k < 6 → sbs (ci S c a r k) A := by
  intro k
  induction k with
  | zero => intro _; exact hr
  | succ k ih =>
    intro hk
    have h := ih (by omega)
    simp only [ci]
    split
    · rename_i q
      obtain ⟨q1, q2, q3⟩ := q
      have e := hA a k (by omega) q1 q2
      have hab : A.testBit a = true ∧ A.testBit (a + 1 + k) = true := by
        rcases q3 with q3 | q3
        · have := h _ q3; exact ⟨this, by rw [← e]; exact this⟩
        · have := h _ q3; exact ⟨by rw [e]; exact this, this⟩
      intro i hi
      rw [tb_or, tb_or, tb_pw, tb_pw] at hi
      rcases hi with hi | hi | hi
      · exact h i hi
      · rw [← hi]; exact hab.1
      · rw [← hi]; exact hab.2
    · exact h
theorem co_i {S : Mem} {c A r : Nat} (hA : cls S c A) (hr : sbs r A) : ∀ a, a ≤ 6 → sbs (co S c r a) A := by
  intro a
  induction a with
  | zero => intro _; exact hr
  | succ a ih => intro ha; exact ci_i hA (ih (by omega)) (5 - a) (by omega)
theorem cm_i {S : Mem} {c A t : Nat} (hA : cls S c A) (ht : A.testBit t = true) : ∀ j, sbs (cm S c t j) A := by
  intro j
  induction j with
  | zero =>
    intro i hi
    have hi : (2 ^ t).testBit i = true := hi
    rw [tb_pw] at hi
    rw [← hi]; exact ht
  | succ j ih => exact co_i hA ih 6 (by omega)
theorem sbs_eq {x y : Nat} (h1 : sbs x y) (h2 : sbs y x) : x = y := by
  apply Nat.eq_of_testBit_eq
  intro i
  cases hx : x.testBit i <;> cases hy : y.testBit i
  · rfl
  · rw [h2 i hy] at hx; cases hx
  · rw [h1 i hx] at hy; cases hy
  · rfl
theorem co_cls {S : Mem} {c r : Nat} (h : co S c r 6 = r) : cls S c r := by
  intro a k hk h1 h2
  have e1 : co S c r a = r := by
    apply sbs_eq
    · have := co_m S c r a (6 - a)
      rw [show a + (6 - a) = 6 by omega, h] at this
      exact this
    · have := co_m S c r 0 a
      rw [Nat.zero_add] at this
      exact this
  have e2 : co S c r (a + 1) = r := by
    apply sbs_eq
    · have := co_m S c r (a + 1) (5 - a)
      rw [show a + 1 + (5 - a) = 6 by omega, h] at this
      exact this
    · have := co_m S c r 0 (a + 1)
      rw [Nat.zero_add] at this
      exact this
  have e2 : ci S c a (co S c r a) (5 - a) = r := e2
  rw [e1] at e2
  have e3 : ∀ k, k ≤ 5 - a → ci S c a r k = r := by
    intro k hk
    apply sbs_eq
    · have := ci_m S c a r k (5 - a - k)
      rw [show k + (5 - a - k) = 5 - a by omega, e2] at this
      exact this
    · have := ci_m S c a r 0 k
      rw [Nat.zero_add] at this
      exact this
  have e4 := e3 k (by omega)
  have e5 := e3 (k + 1) (by omega)
  simp only [ci] at e5
  rw [e4] at e5
  by_cases q : cmC S c r a k
  · rw [if_pos q] at e5
    have p1 : r.testBit a = true := by rw [← e5, tb_or, tb_or, tb_pw]; exact Or.inr (Or.inl rfl)
    have p2 : r.testBit (a + 1 + k) = true := by rw [← e5, tb_or, tb_or, tb_pw, tb_pw]; exact Or.inr (Or.inr rfl)
    rw [p1, p2]
  · have q1 : ¬ r.testBit a = true := fun p => q ⟨h1, h2, Or.inl p⟩
    have q2 : ¬ r.testBit (a + 1 + k) = true := fun p => q ⟨h1, h2, Or.inr p⟩
    rw [eq_false_of_ne_true q1, eq_false_of_ne_true q2]
/-! counting -/
theorem pcn_sb {x y : Nat} (h : sbs x y) : ∀ j, pcn x j ≤ pcn y j ∧ (pcn x j = pcn y j → ∀ i, i < j → x.testBit i = y.testBit i) := by
  intro j
  induction j with
  | zero => exact ⟨Nat.le_refl _, fun _ i hi => by omega⟩
  | succ j ih =>
    obtain ⟨i1, i2⟩ := ih
    simp only [pcn, bt1]
    by_cases cx : x.testBit j = true
    · have cy := h j cx
      rw [if_pos cx, if_pos cy]
      refine ⟨by omega, fun e i hi => ?_⟩
      by_cases hij : i = j
      · rw [hij, cx, cy]
      · exact i2 (by omega) i (by omega)
    · rw [if_neg cx]
      by_cases cy : y.testBit j = true
      · rw [if_pos cy]; exact ⟨by omega, fun e => by omega⟩
      · rw [if_neg cy]
        refine ⟨by omega, fun e i hi => ?_⟩
        by_cases hij : i = j
        · rw [hij, eq_false_of_ne_true cx, eq_false_of_ne_true cy]
        · exact i2 (by omega) i (by omega)
theorem pc_sb {x y : Nat} (hx : x < 2 ^ 16) (hy : y < 2 ^ 16) (h : sbs x y) : pc x ≤ pc y ∧ (pc x = pc y → x = y) := by
  obtain ⟨h1, h2⟩ := pcn_sb h 16
  refine ⟨h1, fun e => ?_⟩
  apply Nat.eq_of_testBit_eq
  intro i
  by_cases hi : i < 16
  · exact h2 e i hi
  · have p : 2 ^ 16 ≤ 2 ^ i := Nat.pow_le_pow_right (by omega) (by omega)
    rw [Nat.testBit_lt_two_pow (show x < 2 ^ i by omega), Nat.testBit_lt_two_pow (show y < 2 ^ i by omega)]
theorem ci_lt {S : Mem} {c a r : Nat} (hr : r < 64) : ∀ k, a + k < 6 → ci S c a r k < 64 := by
  intro k
  induction k with
  | zero => intro _; exact hr
  | succ k ih =>
    intro hk
    have h := ih (by omega)
    simp only [ci]
    have h1 : 2 ^ a < 2 ^ 6 := Nat.pow_lt_pow_right (by omega) (by omega)
    have h2 : 2 ^ (a + 1 + k) < 2 ^ 6 := Nat.pow_lt_pow_right (by omega) (by omega)
    split
    · exact Nat.or_lt_two_pow (n := 6) h (Nat.or_lt_two_pow h1 h2)
    · exact h
theorem co_lt {S : Mem} {c r : Nat} (hr : r < 64) : ∀ a, a ≤ 6 → co S c r a < 64 := by
  intro a
  induction a with
  | zero => intro _; exact hr
  | succ a ih => intro ha; exact ci_lt (ih (by omega)) (5 - a) (by omega)
theorem cm_lt {S : Mem} {c t : Nat} (ht : t < 6) : ∀ j, cm S c t j < 64 := by
  intro j
  induction j with
  | zero => exact Nat.pow_lt_pow_right (a := 2) (by omega) ht
  | succ j ih => exact co_lt ih 6 (by omega)
theorem cm_fx {S : Mem} {c t : Nat} (ht : t < 6) : co S c (cm S c t 6) 6 = cm S c t 6 := by
  have key : ∀ j, co S c (cm S c t j) 6 = cm S c t j ∨ j + 1 ≤ pc (cm S c t j) := by
    intro j
    induction j with
    | zero =>
      refine Or.inr ?_
      show 1 ≤ pc (2 ^ t)
      rcases (show t = 0 ∨ t = 1 ∨ t = 2 ∨ t = 3 ∨ t = 4 ∨ t = 5 by omega) with rfl | rfl | rfl | rfl | rfl | rfl <;> decide
    | succ j ih =>
      show co S c (co S c (cm S c t j) 6) 6 = co S c (cm S c t j) 6 ∨ j + 1 + 1 ≤ pc (co S c (cm S c t j) 6)
      have h1 := cm_lt (S := S) (c := c) ht j
      have h2 := co_lt (S := S) (c := c) h1 6 (by omega)
      have hs := co_m S c (cm S c t j) 0 6
      rw [Nat.zero_add] at hs
      have hs : sbs (cm S c t j) (co S c (cm S c t j) 6) := hs
      by_cases e : co S c (cm S c t j) 6 = cm S c t j
      · rw [e]; exact Or.inl e
      · refine Or.inr ?_
        have h3 := ih.resolve_left e
        obtain ⟨h4, h5⟩ := pc_sb (by omega) (by omega) hs
        have h6 : ¬ pc (cm S c t j) = pc (co S c (cm S c t j) 6) := fun q => e (h5 q).symm
        omega
  rcases key 6 with h | h
  · exact h
  · have h1 := cm_lt (S := S) (c := c) ht 6
    have := (pc6 _ h1).2
    omega
theorem cm_t (S : Mem) (c t : Nat) : ∀ j, (cm S c t j).testBit t = true := by
  intro j
  induction j with
  | zero => exact (tb_pw t t).mpr rfl
  | succ j ih =>
    have := co_m S c (cm S c t j) 0 6 t ih
    rw [Nat.zero_add] at this
    exact this
/-! the bits of the roads out of a set -/
theorem mi_tb (S : Mem) (A a m i : Nat) : ∀ k, (mi S A a m k).testBit i = true ↔ (m.testBit i = true ∨ ∃ j, j < k ∧ isr S a (a + 1 + j) ∧ crs A a (a + 1 + j) ∧ rix S a j = i) := by
  intro k
  induction k with
  | zero =>
    constructor
    · intro h; exact Or.inl h
    · intro h
      rcases h with h | ⟨j, hj, -⟩
      · exact h
      · omega
  | succ k ih =>
    simp only [mi]
    by_cases q : isr S a (a + 1 + k) ∧ crs A a (a + 1 + k)
    · rw [if_pos q, tb_or, tb_pw, ih]
      constructor
      · rintro ((h | ⟨j, h1, h2⟩) | h)
        · exact Or.inl h
        · exact Or.inr ⟨j, by omega, h2⟩
        · exact Or.inr ⟨k, by omega, q.1, q.2, h⟩
      · rintro (h | ⟨j, h1, h2, h3, h4⟩)
        · exact Or.inl (Or.inl h)
        · by_cases e : j = k
          · rw [e] at h4; exact Or.inr h4
          · exact Or.inl (Or.inr ⟨j, by omega, h2, h3, h4⟩)
    · rw [if_neg q, ih]
      constructor
      · rintro (h | ⟨j, h1, h2⟩)
        · exact Or.inl h
        · exact Or.inr ⟨j, by omega, h2⟩
      · rintro (h | ⟨j, h1, h2, h3, h4⟩)
        · exact Or.inl h
        · by_cases e : j = k
          · rw [e] at h2 h3; exact absurd ⟨h2, h3⟩ q
          · exact Or.inr ⟨j, by omega, h2, h3, h4⟩
theorem mo_tb (S : Mem) (A i : Nat) : ∀ n, n ≤ 6 → ((mo S A n).testBit i = true ↔ ∃ a j, a < n ∧ a + 1 + j < 6 ∧ isr S a (a + 1 + j) ∧ crs A a (a + 1 + j) ∧ rix S a j = i) := by
  intro n
  induction n with
  | zero =>
    intro _
    constructor
    · intro h
      have h : (0 : Nat).testBit i = true := h
      rw [Nat.zero_testBit] at h; cases h
    · rintro ⟨a, j, h, -⟩; omega
  | succ n ih =>
    intro hn
    show (mi S A n (mo S A n) (5 - n)).testBit i = true ↔ _
    rw [mi_tb, ih (by omega)]
    constructor
    · rintro (⟨a, j, h1, h2⟩ | ⟨j, h1, h2⟩)
      · exact ⟨a, j, by omega, h2⟩
      · exact ⟨n, j, by omega, by omega, h2⟩
    · rintro ⟨a, j, h1, h2, h3⟩
      by_cases e : a = n
      · subst e; exact Or.inr ⟨j, by omega, h3⟩
      · exact Or.inl ⟨a, j, by omega, h2, h3⟩
/-- a set of roads that cuts u off from t -/
abbrev ctg (S : Mem) (t u c : Nat) : Prop := ¬ (cm S c t 6).testBit u = true
theorem ctg_mo {t u A : Nat} (h : gda t u A) : ctg S t u (mo S A 6) := by
  intro q
  have hc : cls S (mo S A 6) A := by
    intro a k hk h1 h2
    exact Classical.byContradiction (fun q => h2 ((mo_tb S A _ 6 (by omega)).mpr ⟨a, k, by omega, hk, h1, q, rfl⟩))
  exact h.2 (cm_i hc h.1 6 u q)
theorem ctg_R (hS : VS B S) {n t u c : Nat} (hn : (n : Int) = S 0 0) (ht : t < n) (h : ctg S t u c) : ∃ A, A < 2 ^ n ∧ gda t u A ∧ sbs (mo S A 6) c := by
  have hn6 := hS.1
  have hcl := co_cls (cm_fx (S := S) (c := c) (t := t) (by omega))
  refine ⟨cm S c t 6, ?_, ⟨cm_t S c t 6, h⟩, fun i hi => ?_⟩
  · have hall : ∀ i, (2 ^ n - 1).testBit i = decide (i < n) := fun i => Nat.testBit_two_pow_sub_one n i
    have hc : cls S c (2 ^ n - 1) := by
      intro a k hk h1 h2
      have := isr_tn hS h1
      rw [hall, hall, decide_eq_true (by omega), decide_eq_true (by omega)]
    have hs := cm_i hc (t := t) (by rw [hall]; exact decide_eq_true ht) 6
    apply Nat.lt_pow_two_of_testBit
    intro i hi
    cases hb : (cm S c t 6).testBit i
    · rfl
    · have := hs i hb
      rw [hall, decide_eq_false (by omega)] at this
      cases this
  · obtain ⟨a, j, h1, h2, h3, h4, h5⟩ := (mo_tb S _ i 6 (by omega)).mp hi
    rw [← h5]
    exact Classical.byContradiction (fun q => h4 (hcl a j h2 h3 q))
theorem rb_up (S : Mem) : ∀ a j, rb S a ≤ rb S (a + j) := by
  intro a j
  induction j with
  | zero => exact Nat.le_refl _
  | succ j ih =>
    have : rb S (a + (j + 1)) = rb S (a + j) + rc S (a + j) (5 - (a + j)) := rfl
    omega
theorem rc_up (S : Mem) (a : Nat) : ∀ k j, rc S a k ≤ rc S a (k + j) := by
  intro k j
  induction j with
  | zero => exact Nat.le_refl _
  | succ j ih =>
    have : rc S a (k + (j + 1)) = rc S a (k + j) + (if isr S a (a + 1 + (k + j)) then 1 else 0) := rfl
    omega
theorem mo_rb (S : Mem) (A : Nat) : mo S A 6 < 2 ^ rb S 6 := by
  apply Nat.lt_pow_two_of_testBit
  intro i hi
  cases hb : (mo S A 6).testBit i
  · rfl
  · obtain ⟨a, j, h1, h2, h3, h4, h5⟩ := (mo_tb S _ i 6 (by omega)).mp hb
    have e : rc S a (j + 1) = rc S a j + 1 := by
      show rc S a j + (if isr S a (a + 1 + j) then 1 else 0) = _
      rw [if_pos h3]
    have u1 := rc_up S a (j + 1) (5 - a - (j + 1))
    rw [show j + 1 + (5 - a - (j + 1)) = 5 - a by omega] at u1
    have u2 := rb_up S (a + 1) (5 - a)
    rw [show a + 1 + (5 - a) = 6 by omega] at u2
    have u3 : rb S (a + 1) = rb S a + rc S a (5 - a) := rfl
    unfold rix at h5
    omega
/-- the least set that cuts is what a set of towns cuts -/
theorem ctg_B (hS : VS B S) {n t u w : Nat} (hn : (n : Int) = S 0 0) (ht : t < n) (hw : w < 2 ^ rb S 6) (h1 : ctg S t u w) (h2 : ∀ c, c < 2 ^ rb S 6 → ctg S t u c → ¬ lss c w) : isB S t u (2 ^ n) w := by
  have hr := rb_le S 6 (by omega)
  have hp : 2 ^ rb S 6 ≤ 2 ^ 16 := Nat.pow_le_pow_right (by omega) (by omega)
  refine ⟨?_, fun A hA hg => h2 _ (mo_rb S A) (ctg_mo hg)⟩
  obtain ⟨A, a1, a2, a3⟩ := ctg_R hS hn ht h1
  have hm := mo_rb S A
  obtain ⟨p1, p2⟩ := pc_sb (x := mo S A 6) (y := w) (by omega) (by omega) a3
  have := h2 _ hm (ctg_mo a2)
  refine ⟨A, a1, a2, (p2 ?_).symm⟩
  unfold lss at this
  omega
end Come
