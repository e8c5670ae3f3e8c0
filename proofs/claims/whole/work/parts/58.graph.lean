/-! the fewest miles: Floyd's rounds, walks of so many roads -/
section Graph
variable {B : Int} {S : Mem}
def mni (c : Int) (f : Nat → Int) : Nat → Int
  | 0 => c
  | v + 1 => if f v < mni c f v then f v else mni c f v
theorem mni_c (c : Int) (f : Nat → Int) (n : Nat) : mni c f n ≤ c := by
  induction n with
  | zero => exact Int.le_refl _
  | succ n ih => simp only [mni]; split <;> omega
theorem mni_le (c : Int) (f : Nat → Int) (n : Nat) : ∀ v, v < n → mni c f n ≤ f v := by
  induction n with
  | zero => intro v hv; omega
  | succ n ih =>
    intro v hv
    simp only [mni]
    by_cases e : v = n
    · subst e; split <;> omega
    · have := ih v (by omega)
      split <;> omega
theorem mni_at (c : Int) (f : Nat → Int) (n : Nat) : mni c f n = c ∨ ∃ v, v < n ∧ mni c f n = f v := by
  induction n with
  | zero => exact Or.inl rfl
  | succ n ih =>
    simp only [mni]
    split
    · exact Or.inr ⟨n, by omega, rfl⟩
    · rcases ih with h | ⟨v, hv, h⟩
      · exact Or.inl h
      · exact Or.inr ⟨v, by omega, h⟩
/-! Floyd's rounds -/
def fws (w : Nat → Nat → Int) : Nat → Nat → Nat → Int
  | 0, a, b => w a b
  | k + 1, a, b => if fws w k a k + fws w k k b < fws w k a b then fws w k a k + fws w k k b else fws w k a b
def okW' (w : Nat → Nat → Int) : Prop := (∀ a b, 0 ≤ w a b) ∧ ∀ a, w a a = 0
theorem fws_nn {w : Nat → Nat → Int} (h : okW' w) : ∀ k a b, 0 ≤ fws w k a b := by
  intro k
  induction k with
  | zero => exact h.1
  | succ k ih =>
    intro a b
    have h1 := ih a k
    have h2 := ih k b
    have h3 := ih a b
    simp only [fws]; split <;> omega
theorem fws_d {w : Nat → Nat → Int} (h : okW' w) : ∀ k a, fws w k a a = 0 := by
  intro k
  induction k with
  | zero => exact h.2
  | succ k ih =>
    intro a
    have h1 := fws_nn h k a k
    have h2 := fws_nn h k k a
    have h3 := ih a
    simp only [fws]; split <;> omega
theorem fws_col {w : Nat → Nat → Int} (h : okW' w) (k a : Nat) : fws w (k + 1) a k = fws w k a k := by
  have h3 := fws_d h k k
  simp only [fws]; rw [h3, if_neg (by omega)]
theorem fws_row {w : Nat → Nat → Int} (h : okW' w) (k b : Nat) : fws w (k + 1) k b = fws w k k b := by
  have h3 := fws_d h k k
  simp only [fws]; rw [h3, if_neg (by omega)]
theorem fws_le {w : Nat → Nat → Int} : ∀ k a b, fws w k a b ≤ w a b := by
  intro k
  induction k with
  | zero => intro a b; exact Int.le_refl _
  | succ k ih => intro a b; have := ih a b; simp only [fws]; split <;> omega
theorem fws_tri {w : Nat → Nat → Int} (h : okW' w) : ∀ k a b x, x < k → fws w k a b ≤ fws w k a x + fws w k x b := by
  intro k
  induction k with
  | zero => intro a b x hx; omega
  | succ k ih =>
    intro a b x hx
    by_cases e : x = k
    · subst e
      rw [fws_col h, fws_row h]
      simp only [fws]; split <;> omega
    · have hk : x < k := by omega
      have i1 := ih a b x hk
      have i2 := ih a k x hk
      have i3 := ih k b x hk
      have n1 := fws_nn h k k x
      have n2 := fws_nn h k x k
      simp only [fws]
      (repeat' split) <;> omega
theorem fws_pot {w : Nat → Nat → Int} {E : Nat → Int} (h : ∀ a b, E a - E b ≤ w a b) : ∀ k a b, E a - E b ≤ fws w k a b := by
  intro k
  induction k with
  | zero => exact h
  | succ k ih =>
    intro a b
    have h1 := ih a k
    have h2 := ih k b
    have h3 := ih a b
    simp only [fws]; split <;> omega
theorem fws_sym {w : Nat → Nat → Int} (h : ∀ a b, w a b = w b a) : ∀ k a b, fws w k a b = fws w k b a := by
  intro k
  induction k with
  | zero => exact h
  | succ k ih =>
    intro a b
    simp only [fws]
    rw [ih a k, ih k b, ih a b, Int.add_comm]
/-! who walks which road -/
abbrev opn (S : Mem) (l : Int) (a b : Nat) : Prop := ¬ mil S a b = 0 ∧ may S a b (l = 1)
def w1 (S : Mem) (l : Int) (a b : Nat) : Int := if a = b then 0 else if opn S l a b then 8 * mil S a b + 1 else 8000000
def w2 (S : Mem) (l : Int) (a b : Nat) : Int := if a = b then 0 else if opn S l a b then mil S a b else 1000000
theorem opn_lt {l : Int} {a b : Nat} (h : opn S l a b) : a < 6 ∧ b < 6 := by
  have := h.1
  unfold mil at this
  split at this
  · omega
  · exact absurd rfl this
theorem opn_ne (hS : VS B S) {l : Int} {a b : Nat} (h : opn S l a b) : a ≠ b := by
  intro e; subst e; exact h.1 (mil_d hS _)
theorem opn_tn (hS : VS B S) {l : Int} {a b : Nat} (h : opn S l a b) : (a : Int) < S 0 0 ∧ (b : Int) < S 0 0 := by
  obtain ⟨h1, h2⟩ := opn_lt h
  have q := (hS.mi h1 h2).2.2
  have z := h.1
  rw [mil_at h1 h2] at z
  omega
theorem opn_c (hS : VS B S) {l : Int} {a b : Nat} : opn S l a b ↔ opn S l b a := by
  unfold opn may; rw [mil_c hS, rul_c hS]
theorem w1_ok (hS : VS B S) (l : Int) : okW' (w1 S l) := by
  refine ⟨fun a b => ?_, fun a => if_pos rfl⟩
  have := mil_b hS a b
  unfold w1
  split
  · omega
  · split <;> omega
theorem w2_ok (hS : VS B S) (l : Int) : okW' (w2 S l) := by
  refine ⟨fun a b => ?_, fun a => if_pos rfl⟩
  have := mil_b hS a b
  unfold w2
  split
  · omega
  · split <;> omega
theorem w2_sym (hS : VS B S) (l : Int) (a b : Nat) : w2 S l a b = w2 S l b a := by
  unfold w2
  by_cases e : a = b
  · rw [if_pos e, if_pos e.symm]
  · rw [if_neg e, if_neg (show ¬ b = a from fun q => e q.symm)]
    by_cases o : opn S l a b
    · rw [if_pos o, if_pos ((opn_c hS).mp o), mil_c hS]
    · rw [if_neg o, if_neg (fun q => o ((opn_c hS).mpr q))]
/-! walks of just k roads to t -/
def lf (S : Mem) (l : Int) (t : Nat) : Nat → Nat → Int
  | 0, u => if u = t then 0 else 1000000
  | k + 1, u => mni 1000000 (fun v => if opn S l u v ∧ lf S l t k v < 1000000 then lf S l t k v + mil S u v else 1000000) 6
theorem lf_le (S : Mem) (l : Int) (t k u : Nat) : lf S l t k u ≤ 1000000 := by
  cases k with
  | zero => simp only [lf]; split <;> omega
  | succ k => exact mni_c _ _ _
theorem lf_b (hS : VS B S) (l : Int) (t : Nat) : ∀ k u : Nat, 0 ≤ lf S l t k u ∧ (lf S l t k u < 1000000 → lf S l t k u ≤ 9 * k) := by
  intro k
  induction k with
  | zero => intro u; simp only [lf]; split <;> omega
  | succ k ih =>
    intro u
    have e : lf S l t (k + 1) u = mni 1000000 (fun v => if opn S l u v ∧ lf S l t k v < 1000000 then lf S l t k v + mil S u v else 1000000) 6 := rfl
    rcases mni_at 1000000 (fun v => if opn S l u v ∧ lf S l t k v < 1000000 then lf S l t k v + mil S u v else 1000000) 6 with h | ⟨v, hv, h⟩
    · rw [e, h]; omega
    · rw [e, h]
      have := ih v
      have := mil_b hS u v
      show 0 ≤ (if opn S l u v ∧ lf S l t k v < 1000000 then lf S l t k v + mil S u v else 1000000) ∧ ((if opn S l u v ∧ lf S l t k v < 1000000 then lf S l t k v + mil S u v else 1000000) < 1000000 → (if opn S l u v ∧ lf S l t k v < 1000000 then lf S l t k v + mil S u v else 1000000) ≤ 9 * ((k + 1 : Nat) : Int))
      by_cases c : opn S l u v ∧ lf S l t k v < 1000000
      · have c2 := c.2
        rw [if_pos c]; clear c
        constructor
        · omega
        · intro _; omega
      · rw [if_neg c]; clear c; omega
theorem lf_st {l : Int} {t k u v : Nat} (ho : opn S l u v) (h : lf S l t k v < 1000000) : lf S l t (k + 1) u ≤ lf S l t k v + mil S u v := by
  have hv := (opn_lt ho).2
  have := mni_le 1000000 (fun v => if opn S l u v ∧ lf S l t k v < 1000000 then lf S l t k v + mil S u v else 1000000) 6 v hv
  have e : (if opn S l u v ∧ lf S l t k v < 1000000 then lf S l t k v + mil S u v else 1000000) = lf S l t k v + mil S u v := if_pos ⟨ho, h⟩
  rw [← e]
  exact this
theorem lf_ex {l : Int} {t k u : Nat} (h : lf S l t (k + 1) u < 1000000) : ∃ v, opn S l u v ∧ lf S l t k v < 1000000 ∧ lf S l t (k + 1) u = lf S l t k v + mil S u v := by
  have e : lf S l t (k + 1) u = mni 1000000 (fun v => if opn S l u v ∧ lf S l t k v < 1000000 then lf S l t k v + mil S u v else 1000000) 6 := rfl
  rcases mni_at 1000000 (fun v => if opn S l u v ∧ lf S l t k v < 1000000 then lf S l t k v + mil S u v else 1000000) 6 with h1 | ⟨v, hv, h1⟩
  · rw [e, h1] at h; omega
  · rw [h1] at e
    have e2 : lf S l t (k + 1) u = if opn S l u v ∧ lf S l t k v < 1000000 then lf S l t k v + mil S u v else 1000000 := e
    by_cases c : opn S l u v ∧ lf S l t k v < 1000000
    · rw [if_pos c] at e2; exact ⟨v, c.1, c.2, e2⟩
    · rw [if_neg c] at e2; omega
theorem php : ∀ (n : Nat) (f : Nat → Nat), (∀ i, i ≤ n → f i < n) → ∃ i j, i < j ∧ j ≤ n ∧ f i = f j := by
  intro n
  induction n with
  | zero => intro f h; have := h 0 (by omega); omega
  | succ n ih =>
    intro f h
    by_cases c : ∃ i, i ≤ n ∧ f i = f (n + 1)
    · obtain ⟨i, hi, e⟩ := c
      exact ⟨i, n + 1, by omega, by omega, e⟩
    · have c' : ∀ i, i ≤ n → ¬ f i = f (n + 1) := fun i hi e => c ⟨i, hi, e⟩
      obtain ⟨i, j, h1, h2, h3⟩ := ih (fun i => if f i = n then f (n + 1) else f i) (by
        intro i hi
        have a := h i (by omega)
        have b := h (n + 1) (by omega)
        have d := c' i hi
        show (if f i = n then f (n + 1) else f i) < n
        split <;> omega)
      have d1 := c' i (by omega)
      have d2 := c' j (by omega)
      refine ⟨i, j, h1, by omega, ?_⟩
      have h3 : (if f i = n then f (n + 1) else f i) = (if f j = n then f (n + 1) else f j) := h3
      by_cases e1 : f i = n
      · by_cases e2 : f j = n
        · omega
        · rw [if_pos e1, if_neg e2] at h3; omega
      · by_cases e2 : f j = n
        · rw [if_neg e1, if_pos e2] at h3; omega
        · rw [if_neg e1, if_neg e2] at h3; exact h3
theorem lf_walk (l : Int) (t : Nat) : ∀ k u : Nat, u < 6 → lf S l t k u < 1000000 → ∃ f : Nat → Nat, f 0 = u ∧ (∀ i, i ≤ k → f i < 6) ∧ (∀ i, i ≤ k → lf S l t (k - i) (f i) < 1000000) ∧ ∀ i, i < k → opn S l (f i) (f (i + 1)) ∧ lf S l t (k - i) (f i) = lf S l t (k - (i + 1)) (f (i + 1)) + mil S (f i) (f (i + 1)) := by
  intro k
  induction k with
  | zero =>
    intro u hu h
    exact ⟨fun _ => u, rfl, fun _ _ => hu, fun i hi => by rw [show 0 - i = 0 by omega]; exact h, fun i hi => by omega⟩
  | succ k ih =>
    intro u hu h
    obtain ⟨v, ho, hv, e⟩ := lf_ex h
    obtain ⟨f, f0, f1, f2, f3⟩ := ih v (opn_lt ho).2 hv
    refine ⟨fun i => if i = 0 then u else f (i - 1), rfl, ?_, ?_, ?_⟩
    · intro i hi
      show (if i = 0 then u else f (i - 1)) < 6
      split
      · exact hu
      · exact f1 _ (by omega)
    · intro i hi
      show lf S l t (k + 1 - i) (if i = 0 then u else f (i - 1)) < 1000000
      by_cases c : i = 0
      · subst c; exact h
      · rw [if_neg c, show k + 1 - i = k - (i - 1) by omega]; exact f2 _ (by omega)
    · intro i hi
      show opn S l (if i = 0 then u else f (i - 1)) (if i + 1 = 0 then u else f (i + 1 - 1)) ∧ lf S l t (k + 1 - i) (if i = 0 then u else f (i - 1)) = lf S l t (k + 1 - (i + 1)) (if i + 1 = 0 then u else f (i + 1 - 1)) + mil S ((if i = 0 then u else f (i - 1) : Nat)) ((if i + 1 = 0 then u else f (i + 1 - 1) : Nat))
      rw [if_neg (show ¬ i + 1 = 0 by omega), show i + 1 - 1 = i by omega]
      by_cases c : i = 0
      · subst c
        rw [if_pos rfl, f0]
        exact ⟨ho, e⟩
      · rw [if_neg c]
        have := f3 (i - 1) (by omega)
        rw [show i - 1 + 1 = i by omega] at this
        rw [show k + 1 - i = k - (i - 1) by omega, show k + 1 - (i + 1) = k - i by omega]
        exact this
theorem lf_short (hS : VS B S) {l : Int} {t u : Nat} (hu : u < 6) (h : lf S l t 6 u < 1000000) : ∃ k, k ≤ 5 ∧ lf S l t k u ≤ lf S l t 6 u := by
  obtain ⟨f, f0, f1, f2, f3⟩ := lf_walk l t 6 u hu h
  obtain ⟨i, j, hij, hj, e⟩ := php 6 f f1
  -- what is still to go grows back along the walk
  have mono : ∀ d, i + d ≤ 6 → lf S l t (6 - (i + d)) (f (i + d)) ≤ lf S l t (6 - i) (f i) := by
    intro d
    induction d with
    | zero => intro _; exact Int.le_refl _
    | succ d ih =>
      intro hd
      have h1 := ih (by omega)
      have h2 := (f3 (i + d) (by omega)).2
      have h3 := mil_b hS (f (i + d)) (f (i + d + 1))
      rw [show i + (d + 1) = i + d + 1 by omega]
      omega
  have m1 := mono (j - i) (by omega)
  rw [show i + (j - i) = j by omega, ← e] at m1
  have back : ∀ c, c ≤ i → lf S l t (6 - j + c) (f (i - c)) ≤ lf S l t (6 - (i - c)) (f (i - c)) := by
    intro c
    induction c with
    | zero => intro _; exact m1
    | succ c ih =>
      intro hc
      have h1 := ih (by omega)
      have h2 := f3 (i - (c + 1)) (by omega)
      rw [show i - (c + 1) + 1 = i - c by omega] at h2
      have h3 := f2 (i - c) (by omega)
      have h4 := lf_st (t := t) (k := 6 - j + c) h2.1 (by omega)
      rw [show 6 - j + (c + 1) = 6 - j + c + 1 by omega]
      have h5 := h2.2
      omega
  have := back i (Nat.le_refl _)
  rw [show i - i = 0 by omega, f0] at this
  exact ⟨6 - j + i, by omega, this⟩
/-! the fewest miles; miles first, then roads -/
def dd (S : Mem) (l : Int) (a t : Nat) : Int := mni 1000000 (fun k => lf S l t k a) 6
def dw (S : Mem) (l : Int) (a t : Nat) : Int := mni 8000000 (fun k => if lf S l t k a < 1000000 then 8 * lf S l t k a + k else 8000000) 6
theorem dd_b (hS : VS B S) (l : Int) (a t : Nat) : 0 ≤ dd S l a t ∧ dd S l a t ≤ 1000000 := by
  refine ⟨?_, mni_c _ _ _⟩
  rcases mni_at 1000000 (fun k => lf S l t k a) 6 with h | ⟨k, hk, h⟩
  · unfold dd; omega
  · unfold dd; rw [h]; exact (lf_b hS l t k a).1
theorem dw_b (hS : VS B S) (l : Int) (a t : Nat) : 0 ≤ dw S l a t ∧ dw S l a t ≤ 8000000 := by
  refine ⟨?_, mni_c _ _ _⟩
  rcases mni_at 8000000 (fun k => if lf S l t k a < 1000000 then 8 * lf S l t k a + k else 8000000) 6 with h | ⟨k, hk, h⟩
  · unfold dw; omega
  · unfold dw; rw [h]
    have := (lf_b hS l t k a).1
    show 0 ≤ (if lf S l t k a < 1000000 then 8 * lf S l t k a + (k : Int) else 8000000)
    split <;> omega
theorem dw_le {l : Int} {a t k : Nat} (hk : k ≤ 5) (h : lf S l t k a < 1000000) : dw S l a t ≤ 8 * lf S l t k a + k := by
  have := mni_le 8000000 (fun k => if lf S l t k a < 1000000 then 8 * lf S l t k a + k else 8000000) 6 k (by omega)
  have e : (if lf S l t k a < 1000000 then 8 * lf S l t k a + (k : Int) else 8000000) = 8 * lf S l t k a + k := if_pos h
  rw [← e]; exact this
theorem dw_at (S : Mem) (l : Int) (a t : Nat) : dw S l a t = 8000000 ∨ ∃ k, k ≤ 5 ∧ lf S l t k a < 1000000 ∧ dw S l a t = 8 * lf S l t k a + k := by
  rcases mni_at 8000000 (fun k => if lf S l t k a < 1000000 then 8 * lf S l t k a + k else 8000000) 6 with h | ⟨k, hk, h⟩
  · exact Or.inl h
  · have h : dw S l a t = if lf S l t k a < 1000000 then 8 * lf S l t k a + (k : Int) else 8000000 := h
    by_cases c : lf S l t k a < 1000000
    · rw [if_pos c] at h; exact Or.inr ⟨k, by omega, c, h⟩
    · rw [if_neg c] at h; exact Or.inl h
theorem dd_le {l : Int} {a t k : Nat} (hk : k ≤ 5) : dd S l a t ≤ lf S l t k a := mni_le 1000000 (fun k => lf S l t k a) 6 k (by omega)
theorem dd_at (S : Mem) (l : Int) (a t : Nat) : dd S l a t = 1000000 ∨ ∃ k, k ≤ 5 ∧ dd S l a t = lf S l t k a := by
  rcases mni_at 1000000 (fun k => lf S l t k a) 6 with h | ⟨k, hk, h⟩
  · exact Or.inl h
  · exact Or.inr ⟨k, by omega, h⟩
theorem dw_dd (hS : VS B S) (l : Int) (a t : Nat) : dw S l a t / 8 = dd S l a t := by
  have hb := dd_b hS l a t
  rcases dw_at S l a t with h | ⟨k, hk, h1, h2⟩
  · -- nothing can be reached
    rcases dd_at S l a t with g | ⟨j, hj, g⟩
    · omega
    · have q := lf_le S l t j a
      by_cases c : lf S l t j a < 1000000
      · have := dw_le hj c
        have := (lf_b hS l t j a).2 c
        omega
      · omega
  · have g1 := dd_le (S := S) (l := l) (a := a) (t := t) hk
    rcases dd_at S l a t with g | ⟨j, hj, g⟩
    · omega
    · by_cases c : lf S l t j a < 1000000
      · have := dw_le hj c
        omega
      · omega
theorem dw_0 (S : Mem) (l : Int) (t : Nat) (hS : VS B S) : dw S l t t = 0 := by
  have h0 : lf S l t 0 t = 0 := if_pos rfl
  have := dw_le (S := S) (l := l) (a := t) (t := t) (k := 0) (by omega) (by rw [h0]; omega)
  rw [h0] at this
  have := (dw_b hS l t t).1
  omega
theorem dd_0 (S : Mem) (l : Int) (t : Nat) (hS : VS B S) : dd S l t t = 0 := by
  have := dw_dd hS l t t
  rw [dw_0 S l t hS] at this
  omega
theorem dw_pot (hS : VS B S) (l : Int) (t : Nat) : ∀ a b : Nat, dw S l a t - dw S l b t ≤ w1 S l a b := by
  intro a b
  have ba := dw_b hS l a t
  have bb := dw_b hS l b t
  have hm := mil_b hS a b
  unfold w1
  by_cases e : a = b
  · subst e; rw [if_pos rfl]; omega
  · rw [if_neg e]
    by_cases o : opn S l a b
    · rw [if_pos o]
      rcases dw_at S l b t with h | ⟨k, hk, h1, h2⟩
      · clear o; omega
      · have h3 := lf_st o h1
        have h4 := (lf_b hS l t k b).2 h1
        have ha6 := (opn_lt o).1
        clear o
        by_cases k5 : k = 5
        · subst k5
          have h3 : lf S l t 6 a ≤ lf S l t 5 b + mil S a b := h3
          obtain ⟨j, hj, h5⟩ := lf_short hS (l := l) (t := t) ha6 (by omega)
          have h6 := dw_le (S := S) (l := l) (t := t) (a := a) hj (by omega)
          omega
        · have h6 := dw_le (a := a) (k := k + 1) (t := t) (l := l) (S := S) (by omega) (by omega)
          omega
    · rw [if_neg o]; clear o; omega
theorem dd_pot (hS : VS B S) (l : Int) (t : Nat) : ∀ a b : Nat, dd S l a t - dd S l b t ≤ w2 S l a b := by
  intro a b
  have ba := dd_b hS l a t
  have bb := dd_b hS l b t
  have hm := mil_b hS a b
  unfold w2
  by_cases e : a = b
  · subst e; rw [if_pos rfl]; omega
  · rw [if_neg e]
    by_cases o : opn S l a b
    · rw [if_pos o]
      rcases dd_at S l b t with h | ⟨k, hk, h2⟩
      · clear o; omega
      · by_cases h1 : lf S l t k b < 1000000
        · have h3 := lf_st o h1
          have h4 := (lf_b hS l t k b).2 h1
          have ha6 := (opn_lt o).1
          clear o
          by_cases k5 : k = 5
          · subst k5
            have h3 : lf S l t 6 a ≤ lf S l t 5 b + mil S a b := h3
            obtain ⟨j, hj, h5⟩ := lf_short hS (l := l) (t := t) ha6 (by omega)
            have h6 := dd_le (S := S) (l := l) (a := a) (t := t) hj
            omega
          · have h6 := dd_le (S := S) (l := l) (a := a) (t := t) (k := k + 1) (by omega)
            omega
        · clear o; omega
    · rw [if_neg o]; clear o; omega
/-- Floyd's rounds over the towns give them -/
theorem fw_dw (hS : VS B S) (l : Int) {n : Nat} (hn : (n : Int) = S 0 0) {a t : Nat} : fws (w1 S l) n a t = dw S l a t := by
  have hok := w1_ok hS l
  have lo := fws_pot (dw_pot hS l t) n a t
  rw [dw_0 S l t hS] at lo
  have up : ∀ k, ∀ a, lf S l t k a < 1000000 → fws (w1 S l) n a t ≤ 8 * lf S l t k a + k := by
    intro k
    induction k with
    | zero =>
      intro a h
      have : a = t := by simp only [lf] at h; split at h <;> omega
      subst this
      rw [fws_d hok, show lf S l a 0 a = 0 from if_pos rfl]; omega
    | succ k ih =>
      intro a h
      obtain ⟨v, ho, hv, e⟩ := lf_ex h
      have h1 := ih v hv
      have h2 := (opn_tn hS ho).2
      have h3 := fws_tri hok n a t v (by omega)
      have h4 := fws_le (w := w1 S l) n a v
      have h5 : w1 S l a v = 8 * mil S a v + 1 := by unfold w1; rw [if_neg (opn_ne hS ho), if_pos ho]
      clear ho
      omega
  have top : w1 S l a t ≤ 8000000 := by
    have := mil_b hS a t
    unfold w1; split
    · omega
    · split <;> omega
  have h4 := fws_le (w := w1 S l) n a t
  rcases dw_at S l a t with h | ⟨k, hk, h1, h2⟩
  · omega
  · have := up k a h1
    omega
theorem fw_dd (hS : VS B S) (l : Int) {a t : Nat} : fws (w2 S l) 6 a t = dd S l a t := by
  have hok := w2_ok hS l
  have lo := fws_pot (dd_pot hS l t) 6 a t
  rw [dd_0 S l t hS] at lo
  have up : ∀ k, ∀ a, lf S l t k a < 1000000 → fws (w2 S l) 6 a t ≤ lf S l t k a := by
    intro k
    induction k with
    | zero =>
      intro a h
      have : a = t := by simp only [lf] at h; split at h <;> omega
      subst this
      rw [fws_d hok, show lf S l a 0 a = 0 from if_pos rfl]; omega
    | succ k ih =>
      intro a h
      obtain ⟨v, ho, hv, e⟩ := lf_ex h
      have h1 := ih v hv
      have h2 := (opn_lt ho).2
      have h3 := fws_tri hok 6 a t v h2
      have h4 := fws_le (w := w2 S l) 6 a v
      have h5 : w2 S l a v = mil S a v := by unfold w2; rw [if_neg (opn_ne hS ho), if_pos ho]
      clear ho
      omega
  have top : w2 S l a t ≤ 1000000 := by
    have := mil_b hS a t
    unfold w2; split
    · omega
    · split <;> omega
  have h4 := fws_le (w := w2 S l) 6 a t
  rcases dd_at S l a t with h | ⟨k, hk, h2⟩
  · omega
  · by_cases h1 : lf S l t k a < 1000000
    · have := up k a h1
      omega
    · omega
theorem dd_sym (hS : VS B S) (l : Int) (a t : Nat) : dd S l a t = dd S l t a := by
  rw [← fw_dd hS l, ← fw_dd hS l]
  exact fws_sym (w2_sym hS l) 6 a t
end Graph
