/-! ROUND: the best of all rows, as numbers -/
section Best
variable {B : Int} {S σ τ : Mem} {L v : Nat} {T : Ful}
/-- the miles of a row -/
def rsm (S : Mem) (l : Int) (h : Nat) : Nat → List Nat → Int
  | a, [] => dd S l a h
  | a, b :: r => dd S l a b + rsm S l h b r
def rm (S : Mem) (l : Int) (h : Nat) : Nat → Int → List Nat → Int
  | a, s, [] => sat s (dd S l a h)
  | a, s, b :: r => rm S l h b (sat s (dd S l a b)) r
theorem rsm_b (hS : VS B S) (l : Int) (h : Nat) : ∀ (r : List Nat) (a : Nat), 0 ≤ rsm S l h a r := by
  intro r
  induction r with
  | nil => intro a; exact (dd_b hS l a h).1
  | cons b r ih =>
    intro a
    have h1 := dd_b hS l a b
    have h2 := ih b
    show 0 ≤ dd S l a b + rsm S l h b r
    omega
theorem rm_rs (hS : VS B S) (l : Int) (h : Nat) : ∀ (r : List Nat) (a : Nat) (s : Int), 0 ≤ s → rm S l h a s r = sat s (rsm S l h a r) := by
  intro r
  induction r with
  | nil => intro a s _; rfl
  | cons b r ih =>
    intro a s hs
    have h1 := dd_b hS l a b
    have h2 := rsm_b hS l h r b
    show rm S l h b (sat s (dd S l a b)) r = sat s (dd S l a b + rsm S l h b r)
    rw [ih b _ (sat_b hs h1.1).1]
    unfold sat
    split <;> split <;> split <;> omega
def bst (f : List Nat → Int) : List (List Nat) → Int × List Nat → Int × List Nat
  | [], z => z
  | r :: ls, z => bst f ls (if z.1 ≤ f r then z else (f r, r))
theorem bst_app (f : List Nat → Int) : ∀ (x y : List (List Nat)) (z : Int × List Nat), bst f (x ++ y) z = bst f y (bst f x z) := by
  intro x
  induction x with
  | nil => intro y z; rfl
  | cons r x ih => intro y z; exact ih y _
/-- over the towns of A, in their order -/
def sct (A : Nat) (μ : Nat → Int) (ρ : Nat → List Nat) (z : Int × List Nat) : Nat → Int × List Nat
  | 0 => z
  | b + 1 => if A.testBit b = true then (if (sct A μ ρ z b).1 ≤ μ b then sct A μ ρ z b else (μ b, ρ b)) else sct A μ ρ z b
theorem bst_sc {f : List Nat → Int} {A : Nat} {φ : Nat → List (List Nat)} {μ : Nat → Int} {ρ : Nat → List Nat} {z : Int × List Nat} (hz : z.1 ≤ 1000000) (hμ : ∀ b, μ b ≤ 1000000) (hφ : ∀ b, b < 6 → A.testBit b = true → ∀ z : Int × List Nat, z.1 ≤ 1000000 → bst f (φ b) z = if z.1 ≤ μ b then z else (μ b, ρ b)) : ∀ n, n ≤ 6 → bst f (((List.range n).filter (fun b => A.testBit b)).flatMap φ) z = sct A μ ρ z n ∧ (sct A μ ρ z n).1 ≤ 1000000 := by
  intro n
  induction n with
  | zero => intro _; exact ⟨rfl, hz⟩
  | succ n ih =>
    intro hn
    obtain ⟨i1, i2⟩ := ih (by omega)
    rw [List.range_succ, List.filter_append, List.flatMap_append, bst_app, i1]
    simp only [sct]
    by_cases c : A.testBit n = true
    · rw [if_pos c]
      have e : List.filter (fun b => A.testBit b) [n] = [n] := by simp [c]
      rw [e]
      have e2 : List.flatMap φ [n] = φ n := by simp
      rw [e2, hφ n (by omega) c _ i2]
      refine ⟨rfl, ?_⟩
      split
      · exact i2
      · exact hμ n
    · rw [if_neg c]
      have e : List.filter (fun b => A.testBit b) [n] = [] := by simp [c]
      rw [e]
      exact ⟨rfl, i2⟩
theorem sc_A {A : Nat} {μ : Nat → Int} {ρ : Nat → List Nat} {z : Int × List Nat} : ∀ n, (∀ b, b < n → A.testBit b = true → z.1 ≤ μ b) → sct A μ ρ z n = z := by
  intro n
  induction n with
  | zero => intro _; rfl
  | succ n ih =>
    intro h
    have e := ih (fun b hb => h b (by omega))
    simp only [sct]
    rw [e]
    by_cases c : A.testBit n = true
    · rw [if_pos c, if_pos (h n (by omega) c)]
    · rw [if_neg c]
theorem sc_B {A : Nat} {μ : Nat → Int} {ρ : Nat → List Nat} {z : Int × List Nat} {b n : Nat} (hb : A.testBit b = true) (hz : ¬ z.1 ≤ μ b) (h1 : ∀ c, c < b → A.testBit c = true → μ b < μ c) (h2 : ∀ c, c < n → A.testBit c = true → μ b ≤ μ c) (hbn : b < n) : sct A μ ρ z n = (μ b, ρ b) := by
  have k1 : ∀ m, m ≤ b → μ b < (sct A μ ρ z m).1 := by
    intro m
    induction m with
    | zero => intro _; show μ b < z.1; omega
    | succ m ih =>
      intro hm
      have := ih (by omega)
      simp only [sct]
      split
      · rename_i c
        split
        · exact this
        · exact h1 m (by omega) c
      · exact this
  have k2 : ∀ m, b < m → m ≤ n → sct A μ ρ z m = (μ b, ρ b) := by
    intro m
    induction m with
    | zero => intro h; omega
    | succ m ih =>
      intro hm hn
      simp only [sct]
      by_cases e : m = b
      · subst e
        have := k1 m (Nat.le_refl _)
        rw [if_pos hb, if_neg (by omega)]
      · rw [ih (by omega) (by omega)]
        by_cases c : A.testBit m = true
        · rw [if_pos c, if_pos (h2 m (by omega) c)]
        · rw [if_neg c]
  exact k2 n hbn (Nat.le_refl _)
theorem gm_le {A : Nat} {f : Int} {g : Nat → Int} : ∀ n b, b < n → A.testBit b = true → gm A f g n ≤ g b := by
  intro n
  induction n with
  | zero => intro b hb; omega
  | succ n ih =>
    intro b hb ht
    simp only [gm]
    by_cases e : b = n
    · subst e
      rw [if_pos ht]; unfold fMin; split <;> omega
    · have := ih b (by omega) ht
      split
      · unfold fMin; split <;> omega
      · exact this
theorem fF_le {l : Int} {h n A a b : Nat} (hb : b < n) (ht : A.testBit b = true) : fF S l h n 7 A a ≤ dd S l a b + fF S l h n 6 (A - 2 ^ b) b := by
  have e : fF S l h n 7 A a = fMin (gm A (if A = 0 then dd S l a h else 1000000) (fun b => dd S l a b + fF S l h n 6 (A - 2 ^ b) b) n) 1000000 := rfl
  have := gm_le (A := A) (f := if A = 0 then dd S l a h else 1000000) (g := fun b => dd S l a b + fF S l h n 6 (A - 2 ^ b) b) n b hb ht
  rw [e]
  generalize gm A (if A = 0 then dd S l a h else 1000000) (fun b => dd S l a b + fF S l h n 6 (A - 2 ^ b) b) n = y at this ⊢
  have this : y ≤ dd S l a b + fF S l h n 6 (A - 2 ^ b) b := this
  unfold fMin
  split <;> omega
theorem fF_0 (hS : VS B S) {l : Int} {h n a : Nat} : fF S l h n 7 0 a = dd S l a h := by
  have e : fF S l h n 7 0 a = fMin (gm 0 (if (0 : Nat) = 0 then dd S l a h else 1000000) (fun b => dd S l a b + fF S l h n 6 (0 - 2 ^ b) b) n) 1000000 := rfl
  have g : ∀ (f : Int) (g : Nat → Int) n, gm 0 f g n = f := by
    intro f g n
    induction n with
    | zero => rfl
    | succ n ih => simp only [gm, Nat.zero_testBit, Bool.false_eq_true, if_false]; exact ih
  have := dd_b hS l a h
  rw [e, g, if_pos rfl]
  unfold fMin
  rw [if_neg (by omega)]
def gl (S : Mem) (l : Int) (h n : Nat) : Nat → Nat → Nat → List Nat
  | 0, _, _ => []
  | k + 1, A, a => if A = 0 then [] else nt S l h n A a :: gl S l h n k (A - 2 ^ nt S l h n A a) (nt S l h n A a)
/-- the best of all rows is the plan's -/
theorem bst_prm (hS : VS B S) {l : Int} {h n : Nat} (hn : n ≤ 6) {f : List Nat → Int} : ∀ (k A a : Nat) (s : Int) (w : List Nat) (z : Int × List Nat), A < 64 → pc A ≤ k → (∀ b, A.testBit b = true → b < n) → 0 ≤ s → z.1 ≤ 1000000 → (∀ r, f (w ++ r) = sat 0 (s + rsm S l h a r)) → bst f ((prm k A).map (fun r => w ++ r)) z = if z.1 ≤ sat 0 (s + fF S l h n 7 A a) then z else (sat 0 (s + fF S l h n 7 A a), w ++ gl S l h n k A a) := by
  intro k
  induction k with
  | zero =>
    intro A a s w z hA hp hAn hs hz hf
    have h0 := (pc_0 A hA).mp (by omega)
    subst h0
    rw [fF_0 hS]
    show bst f [w ++ []] z = if _ then z else (_, w ++ [])
    simp only [bst, hf]
    rfl
  | succ k ih =>
    intro A a s w z hA hp hAn hs hz hf
    by_cases h0 : A = 0
    · subst h0
      rw [fF_0 hS]
      have e1 : prm (k + 1) 0 = [[]] := rfl
      have e2 : gl S l h n (k + 1) 0 a = [] := rfl
      rw [e1, e2]
      show bst f [w ++ []] z = _
      simp only [bst, hf]
      rfl
    · have e1 : prm (k + 1) A = ((List.range 6).filter (fun b => A.testBit b)).flatMap (fun b => (prm k (A - 2 ^ b)).map (fun r => b :: r)) := if_neg h0
      have e2 : gl S l h n (k + 1) A a = nt S l h n A a :: gl S l h n k (A - 2 ^ nt S l h n A a) (nt S l h n A a) := if_neg h0
      rw [e1, e2, List.map_flatMap]
      obtain ⟨μ, hμ⟩ : ∃ μ : Nat → Int, μ = fun b => sat 0 (s + (dd S l a b + fF S l h n 6 (A - 2 ^ b) b)) := ⟨_, rfl⟩
      obtain ⟨ρ, hρ⟩ : ∃ ρ : Nat → List Nat, ρ = fun b => w ++ b :: gl S l h n k (A - 2 ^ b) b := ⟨_, rfl⟩
      have pA := (pc6 A hA).2
      have hx : ∀ b, 0 ≤ s + (dd S l a b + fF S l h n 6 (A - 2 ^ b) b) := by
        intro b
        have d1 := dd_b hS l a b
        have d2 := fF_b hS l h n 6 (A - 2 ^ b) b
        omega
      have hμb : ∀ b, μ b ≤ 1000000 := by
        intro b; rw [hμ]; exact (sat_b (Int.le_refl 0) (hx b)).2.1
      have key := (bst_sc (f := f) (A := A) (φ := fun b => ((prm k (A - 2 ^ b)).map (fun r => b :: r)).map (fun r => w ++ r)) (μ := μ) (ρ := ρ) (z := z) hz hμb (by
        intro b hb ht z' hz'
        obtain ⟨t1, t2, -⟩ := take1 A hA b hb ht
        have d1 := dd_b hS l a b
        have := ih (A - 2 ^ b) b (s + dd S l a b) (w ++ [b]) z' (by omega) (by omega) (fun c hc => hAn c (sbs_t (m := A) hA hb ht (fun _ h => h) c hc)) (by omega) hz' (fun r => by
          rw [show (w ++ [b]) ++ r = w ++ (b :: r) by simp, hf]
          show sat 0 (s + (dd S l a b + rsm S l h b r)) = _
          rw [Int.add_assoc])
        show bst f (((prm k (A - 2 ^ b)).map (fun r => b :: r)).map (fun r => w ++ r)) z' = _
        rw [List.map_map]
        have eq : ((fun r => w ++ r) ∘ fun r => b :: r) = fun r => (w ++ [b]) ++ r := by funext r; simp
        rw [eq, this, fF_k (S := S) hn 7 6 (A - 2 ^ b) b (by omega) (by omega) (by omega), hμ, hρ, Int.add_assoc]
        simp) 6 (Nat.le_refl _)).1
      refine key.trans ?_
      have hF := fF_b hS l h n 7 A a
      have le : ∀ b, A.testBit b = true → sat 0 (s + fF S l h n 7 A a) ≤ μ b := by
        intro b ht
        have h1 := fF_le (S := S) (l := l) (h := h) (n := n) (A := A) (a := a) (hAn b ht) ht
        rw [hμ]
        show sat 0 _ ≤ sat 0 (s + (dd S l a b + fF S l h n 6 (A - 2 ^ b) b))
        unfold sat
        split <;> split <;> omega
      by_cases c : z.1 ≤ sat 0 (s + fF S l h n 7 A a)
      · rw [if_pos c]
        exact sc_A 6 (fun b _ ht => Int.le_trans c (le b ht))
      · rw [if_neg c]
        have c1 : sat 0 (s + fF S l h n 7 A a) = s + fF S l h n 7 A a ∧ s + fF S l h n 7 A a < 1000000 := by
          unfold sat at c ⊢
          split at c <;> split <;> omega
        obtain ⟨n1, n2, n3⟩ := nt_sp (S := S) (l := l) (h := h) hn h0 (show fF S l h n 7 A a < 1000000 by omega)
        have hb : μ (nt S l h n A a) = sat 0 (s + fF S l h n 7 A a) := by
          rw [hμ]; show sat 0 (s + (dd S l a _ + _)) = _; rw [n1.2]
        have := sc_B (A := A) (μ := μ) (ρ := ρ) (z := z) (b := nt S l h n A a) (n := 6) n1.1 (by rw [hb]; exact c) (by
          intro d hd ht
          have h1 := le d ht
          have h2 : ¬ μ d = sat 0 (s + fF S l h n 7 A a) := by
            intro q
            refine n3 d hd ⟨ht, ?_⟩
            rw [hμ] at q
            have q : sat 0 (s + (dd S l a d + fF S l h n 6 (A - 2 ^ d) d)) = sat 0 (s + fF S l h n 7 A a) := q
            rw [c1.1] at q
            unfold sat at q
            split at q <;> omega
          rw [hb]; omega) (by
          intro d _ ht
          rw [hb]; exact le d ht) (by omega)
        rw [this, hb, hρ]
theorem go_s {l : Int} {h n : Nat} : ∀ (k a A : Nat), go S l h n a A (k + 1) = go S l h n (nt S l h n A a) (A - 2 ^ nt S l h n A a) k := by
  intro k
  induction k with
  | zero => intro a A; rfl
  | succ k ih =>
    intro a A
    have e1 : go S l h n a A (k + 1 + 1) = (nt S l h n (go S l h n a A (k + 1)).2 (go S l h n a A (k + 1)).1, (go S l h n a A (k + 1)).2 - 2 ^ nt S l h n (go S l h n a A (k + 1)).2 (go S l h n a A (k + 1)).1) := rfl
    rw [e1, ih]
    rfl
theorem gl_go (hS : VS B S) {l : Int} {h n : Nat} (hn : n ≤ 6) : ∀ (k A a i : Nat), A < 64 → pc A ≤ k → fF S l h n 7 A a < 1000000 → i < pc A → (gl S l h n k A a).getD i 0 = (go S l h n a A (i + 1)).1 := by
  intro k
  induction k with
  | zero => intro A a i h1 h2 h3 h4; omega
  | succ k ih =>
    intro A a i hA h2 h3 h4
    have h0 : ¬ A = 0 := fun q => by have := (pc_0 A hA).mpr q; omega
    have e2 : gl S l h n (k + 1) A a = nt S l h n A a :: gl S l h n k (A - 2 ^ nt S l h n A a) (nt S l h n A a) := if_neg h0
    obtain ⟨n1, n2, n3⟩ := nt_sp (S := S) (l := l) (h := h) hn h0 h3
    obtain ⟨t1, t2, -⟩ := take1 A hA _ (by omega) n1.1
    have pA := (pc6 A hA).2
    have d1 := dd_b hS l a (nt S l h n A a)
    rw [e2, go_s]
    cases i with
    | zero => rfl
    | succ i =>
      refine ih _ _ i (by omega) (by omega) ?_ (by omega)
      rw [fF_k (S := S) hn 7 6 _ _ (by omega) (by omega) (by omega)]
      have := n1.2
      omega
end Best
