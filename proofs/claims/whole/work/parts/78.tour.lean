/-! ROUND: the fewest miles, by sets -/
section Tour
variable {B : Int} {S σ τ : Mem} {L v : Nat} {T : Ful}
def gm (A : Nat) (f : Int) (g : Nat → Int) : Nat → Int
  | 0 => f
  | b + 1 => if A.testBit b = true then fMin (gm A f g b) (g b) else gm A f g b
/-- the fewest miles from a, over the towns of A, to h -/
def fF (S : Mem) (l : Int) (h n : Nat) : Nat → Nat → Nat → Int
  | 0, _, _ => 1000000
  | k + 1, A, a => fMin (gm A (if A = 0 then dd S l a h else 1000000) (fun b => dd S l a b + fF S l h n k (A - 2 ^ b) b) n) 1000000
theorem gm_b {A : Nat} {f : Int} {g : Nat → Int} (hf : 0 ≤ f ∧ f ≤ 1000000) (hg : ∀ b, 0 ≤ g b) : ∀ n, 0 ≤ gm A f g n ∧ gm A f g n ≤ 1000000 := by
  intro n
  induction n with
  | zero => exact hf
  | succ n ih =>
    have := hg n
    simp only [gm]
    split
    · unfold fMin; split <;> omega
    · exact ih
theorem fF_b (hS : VS B S) (l : Int) (h n : Nat) : ∀ k A a, 0 ≤ fF S l h n k A a ∧ fF S l h n k A a ≤ 1000000 := by
  intro k
  induction k with
  | zero => intro A a; exact ⟨by show (0 : Int) ≤ 1000000; omega, Int.le_refl _⟩
  | succ k ih =>
    intro A a
    simp only [fF]
    have hd := dd_b hS l a h
    have := gm_b (A := A) (f := if A = 0 then dd S l a h else 1000000) (g := fun b => dd S l a b + fF S l h n k (A - 2 ^ b) b) (by split <;> omega) (fun b => by
      have h1 := dd_b hS l a b
      have h2 := ih (A - 2 ^ b) b
      show 0 ≤ dd S l a b + fF S l h n k (A - 2 ^ b) b
      omega) n
    generalize gm A (if A = 0 then dd S l a h else 1000000) (fun b => dd S l a b + fF S l h n k (A - 2 ^ b) b) n = z at this ⊢
    unfold fMin
    split <;> omega
theorem gm_cg {A : Nat} {f : Int} {g g' : Nat → Int} {n : Nat} (h : ∀ b, b < n → A.testBit b = true → g b = g' b) : ∀ k, k ≤ n → gm A f g k = gm A f g' k := by
  intro k
  induction k with
  | zero => intro _; rfl
  | succ k ih =>
    intro hk
    simp only [gm]
    rw [ih (by omega)]
    by_cases c : A.testBit k = true
    · rw [if_pos c, if_pos c, h k (by omega) c]
    · rw [if_neg c, if_neg c]
theorem take1 : ∀ A : Nat, A < 64 → ∀ b : Nat, b < 6 → A.testBit b = true → pc (A - 2 ^ b) + 1 = pc A ∧ A - 2 ^ b < A ∧ and32 (A : Int) (xor32 (shl32 1 (b : Int)) (-1)) = ((A - 2 ^ b : Nat) : Int) := by decide +kernel
theorem fF_k {l : Int} {h n : Nat} (hn : n ≤ 6) : ∀ k j A a, A < 64 → pc A < k → pc A < j → fF S l h n k A a = fF S l h n j A a := by
  intro k
  induction k with
  | zero => intro j A a hA h1; omega
  | succ k ih =>
    intro j A a hA h1 h2
    cases j with
    | zero => omega
    | succ j =>
      simp only [fF]
      rw [gm_cg (n := n) (fun b hb ht => by
        have := take1 A hA b (by omega) ht
        show dd S l a b + fF S l h n k (A - 2 ^ b) b = dd S l a b + fF S l h n j (A - 2 ^ b) b
        rw [ih j (A - 2 ^ b) b (by omega) (by omega) (by omega)]) n (Nat.le_refl _)]
def Tb (S : Mem) (l : Int) (h n m A : Nat) (σ : Mem) : Prop := ∀ C a, C < A → sbs C m → a < n → σ 40 (6 * C + a) = fF S l h n 7 C a
def Fr40 (σ τ : Mem) : Prop := ∀ o, o ≠ 40 → τ o = σ o
theorem Fr40.tr {a b c : Mem} (h1 : Fr40 a b) (h2 : Fr40 b c) : Fr40 a c := fun o h => (h2 o h).trans (h1 o h)
theorem x_fewF {C a : Nat} (hC : C < 64) (ha : a < 6) (Q : PQ) : X L 44 0 [some (xR 39), some (xI (a : Int)), some (xI (C : Int))] [] σ Q = Q (some (xI (σ 40 (6 * C + a)))) σ := by
  have i1 : w32 (w32 (6 * (C : Int)) + (a : Int)) = ((6 * C + a : Nat) : Int) := by
    simp (disch := omega) only [w32_id]; omega
  rw [e_44_0]
  simp only [brI, not_true_eq_false, true_implies, false_implies, implies_true, and_true, cTag, cTgt, cLen, true_and, Int.toNat_natCast, retI_I, retR_R, retV_N, retL_L, ne_eq, Int.reduceEq, not_false_eq_true, i1, x_valueAt L 40 _ _ _ rfl, vA]
  rw [if_pos ⟨by omega, by show ((6 * C + a : Nat) : Int) < 384; omega⟩]
theorem x_overT (hS : VS B S) (hL : LdC S σ) {l h n m A a b : Nat} (hl : l < 2) (hn : (n : Int) = S 0 0) (hA : A < 64) (hm : sbs A m) (hT : Tb S l h n m A σ) (ha : a < n) (hb : b < n) (hbA : A.testBit b = true) (Q : PQ) : X L 43 0 [some (xR 39), some (xR 36), some (xI (a : Int)), some (xI (b : Int)), some (xI (l : Int)), some (xI (A : Int))] [] σ Q = Q (some (xI (dd S l a b + fF S l h n 6 (A - 2 ^ b) b))) σ := by
  have hn6 := hS.1
  obtain ⟨t1, t2, t3⟩ := take1 A hA b (by omega) hbA
  have hp := (pc6 A hA).2
  have hs : sbs (A - 2 ^ b) m := by
    intro i hi
    refine hm i ?_
    have q : ∀ A : Nat, A < 64 → ∀ b : Nat, b < 6 → A.testBit b = true → ∀ i : Nat, i < 6 → (A - 2 ^ b).testBit i = true → A.testBit i = true := by decide +kernel
    by_cases h6 : i < 6
    · exact q A hA b (by omega) hbA i h6 hi
    · have p : 2 ^ 6 ≤ 2 ^ i := Nat.pow_le_pow_right (by omega) (by omega)
      rw [Nat.testBit_lt_two_pow (show A - 2 ^ b < 2 ^ i by omega)] at hi
      cases hi
  have e := hT (A - 2 ^ b) b t2 hs hb
  rw [fF_k (S := S) (show n ≤ 6 by omega) 7 6 (A - 2 ^ b) b (by omega) (by omega) (by omega)] at e
  have b1 := dd_b hS l a b
  have b2 := fF_b hS l h n 6 (A - 2 ^ b) b
  rw [e_43_0]
  simp only [brI, not_true_eq_false, true_implies, false_implies, implies_true, and_true, cTag, cTgt, cLen, true_and, Int.toNat_natCast, retI_I, retR_R, retV_N, retL_L, ne_eq, Int.reduceEq, not_false_eq_true, x_milesBt hS hL hl (show (a : Int) < S 0 0 by omega) (show (b : Int) < S 0 0 by omega), t3, x_fewF (show A - 2 ^ b < 64 by omega) (show b < 6 by omega), e]
  rw [w32_id (by omega) (by omega)]
theorem x_reckon (hR : RC 1 S σ) (hS : VS B S) (hL : LdC S σ) {l h n m A : Nat} (hl : l < 2) (hn : (n : Int) = S 0 0) (hh : h < n) (hA : A < 64) (hm : sbs A m) (hT : Tb S l h n m A σ) : ∃ τ, (∀ Q : PQ, X L 42 0 [some (xR 39), some (xR 1), some (xR 36), some (xI (h : Int)), some (xI (l : Int)), some (xI (A : Int)), none, none, none] [] σ Q = Q none τ) ∧ Fr40 σ τ ∧ (∀ j, j < 6 * A → τ 40 j = σ 40 j) ∧ ∀ a, a < n → τ 40 (6 * A + a) = fF S l h n 7 A a := by
  have hn6 := hS.1
  obtain ⟨⟨τ, c7, c8⟩, e1, hF, hK, hD⟩ := lpE (n := n) (fun a (z : Mem × Option PV × Option PV) Q => X L 42 3 [some (xR 39), some (xR 1), some (xR 36), some (xI (h : Int)), some (xI (l : Int)), some (xI (A : Int)), some (xI (a : Int)), z.2.1, z.2.2] [] z.1 Q) (fun a z => Fr40 σ z.1 ∧ (∀ j, j < 6 * A → z.1 40 j = σ 40 j) ∧ ∀ c, c < a → z.1 40 (6 * A + c) = fF S l h n 7 A c) (by
    intro a ⟨ρ, d7, d8⟩ ha ⟨hF, hK, hD⟩
    have hF : Fr40 σ ρ := hF
    have hK : ∀ j, j < 6 * A → ρ 40 j = σ 40 j := hK
    have hD : ∀ c, c < a → ρ 40 (6 * A + c) = fF S l h n 7 A c := hD
    have hRr : RC 1 S ρ := RC_eq (fun o ho => hF o (by omega)) hR
    have hLr : LdC S ρ := fun l a b h1 h2 h3 => by rw [hF 37 (by omega)]; exact hL l a b h1 h2 h3
    have hTr : Tb S l h n m A ρ := fun C c h1 h2 h3 => by rw [hK _ (by omega)]; exact hT C c h1 h2 h3
    have e0 := hRr.1 0 (by omega)
    obtain ⟨f, hf⟩ : ∃ f : Int, f = if A = 0 then dd S l a h else 1000000 := ⟨_, rfl⟩
    obtain ⟨g, hg⟩ : ∃ g : Nat → Int, g = fun b => dd S l a b + fF S l h n 6 (A - 2 ^ b) b := ⟨_, rfl⟩
    have hFv : fF S l h n 7 A a = fMin (gm A f g n) 1000000 := by rw [hf, hg]; rfl
    have hlp := lpF (n := n) (fun b (x : Int) Q => X L 42 36 [some (xR 39), some (xR 1), some (xR 36), some (xI (h : Int)), some (xI (l : Int)), some (xI (A : Int)), some (xI (a : Int)), some (xI x), some (xI (b : Int))] [] ρ Q) (fun b => gm A f g b) (by
      intro b hb Q
      have hbb := bit_n (a := A) (k := b) (by omega) (by omega)
      have nx : ∀ (x : Int), X L 42 75 [some (xR 39), some (xR 1), some (xR 36), some (xI (h : Int)), some (xI (l : Int)), some (xI (A : Int)), some (xI (a : Int)), some (xI x), some (xI (b : Int))] [] ρ Q = X L 42 36 [some (xR 39), some (xR 1), some (xR 36), some (xI (h : Int)), some (xI (l : Int)), some (xI (A : Int)), some (xI (a : Int)), some (xI x), some (xI ((b + 1 : Nat) : Int))] [] ρ Q := by
        intro x; rw [e_42_75, w32_id (by omega) (by omega)]; rfl
      show X L 42 36 [some (xR 39), some (xR 1), some (xR 36), some (xI (h : Int)), some (xI (l : Int)), some (xI (A : Int)), some (xI (a : Int)), some (xI (gm A f g b)), some (xI (b : Int))] [] ρ Q = X L 42 36 [some (xR 39), some (xR 1), some (xR 36), some (xI (h : Int)), some (xI (l : Int)), some (xI (A : Int)), some (xI (a : Int)), some (xI (if A.testBit b = true then fMin (gm A f g b) (g b) else gm A f g b)), some (xI ((b + 1 : Nat) : Int))] [] ρ Q
      rw [e_42_36]
      by_cases c : A.testBit b = true
      · have ov := fun Q => x_overT (L := L) hS hLr hl hn hA hm hTr ha hb c Q
        simp only [brI, not_true_eq_false, true_implies, false_implies, implies_true, and_true, cTag, cTgt, cLen, true_and, Int.toNat_natCast, retI_I, retR_R, retV_N, retL_L, ne_eq, Int.reduceEq, not_false_eq_true, e0, x_isIn, bI_0, ov, nx]
        rw [if_neg (by omega), if_neg (fun q => q (hbb.mpr c)), if_pos c, hg]
      · simp only [brI, not_true_eq_false, true_implies, false_implies, implies_true, and_true, cTag, cTgt, cLen, true_and, Int.toNat_natCast, retI_I, retR_R, retV_N, retL_L, ne_eq, Int.reduceEq, not_false_eq_true, e0, x_isIn, bI_0, nx]
        rw [if_neg (by omega), if_pos (fun q => c (hbb.mp q)), if_neg c])
    have hlp : ∀ Q : PQ, X L 42 36 [some (xR 39), some (xR 1), some (xR 36), some (xI (h : Int)), some (xI (l : Int)), some (xI (A : Int)), some (xI (a : Int)), some (xI f), some (xI 0)] [] ρ Q = X L 42 36 [some (xR 39), some (xR 1), some (xR 36), some (xI (h : Int)), some (xI (l : Int)), some (xI (A : Int)), some (xI (a : Int)), some (xI (gm A f g n)), some (xI (n : Int))] [] ρ Q := hlp
    have i1 : w32 (w32 (6 * (A : Int)) + (a : Int)) = ((6 * A + a : Nat) : Int) := by
      simp (disch := omega) only [w32_id]; omega
    have hpA : pA L ρ 40 ((6 * A + a : Nat) : Int) (fF S l h n 7 A a) = up ρ 40 (6 * A + a) (fF S l h n 7 A a) := by
      unfold pA
      rw [if_pos ⟨by omega, by show ((6 * A + a : Nat) : Int) < 384; omega⟩, Int.toNat_natCast]
    refine ⟨(up ρ 40 (6 * A + a) (fF S l h n 7 A a), some (xI (gm A f g n)), some (xI (n : Int))), fun Q => ?_, ?_, ?_, ?_⟩
    · show X L 42 3 [some (xR 39), some (xR 1), some (xR 36), some (xI (h : Int)), some (xI (l : Int)), some (xI (A : Int)), some (xI (a : Int)), d7, d8] [] ρ Q = X L 42 3 [some (xR 39), some (xR 1), some (xR 36), some (xI (h : Int)), some (xI (l : Int)), some (xI (A : Int)), some (xI ((a + 1 : Nat) : Int)), some (xI (gm A f g n)), some (xI (n : Int))] [] (up ρ 40 (6 * A + a) (fF S l h n 7 A a)) Q
      have e31 : X L 42 31 [some (xR 39), some (xR 1), some (xR 36), some (xI (h : Int)), some (xI (l : Int)), some (xI (A : Int)), some (xI (a : Int)), d7, d8] [xI f] ρ Q = X L 42 3 [some (xR 39), some (xR 1), some (xR 36), some (xI (h : Int)), some (xI (l : Int)), some (xI (A : Int)), some (xI ((a + 1 : Nat) : Int)), some (xI (gm A f g n)), some (xI (n : Int))] [] (up ρ 40 (6 * A + a) (fF S l h n 7 A a)) Q := by
        rw [e_42_31, hlp, e_42_36]
        simp only [brI, not_true_eq_false, true_implies, false_implies, implies_true, and_true, cTag, cTgt, cLen, true_and, Int.toNat_natCast, retI_I, retR_R, retV_N, retL_L, ne_eq, Int.reduceEq, not_false_eq_true, e0]
        rw [if_pos (by omega), e_42_81]
        simp only [brI, not_true_eq_false, true_implies, false_implies, implies_true, and_true, cTag, cTgt, cLen, true_and, Int.toNat_natCast, retI_I, retR_R, retV_N, retL_L, ne_eq, Int.reduceEq, not_false_eq_true, i1, x_put L 40 _ _ _ _ rfl, ← hFv, hpA]
        rw [w32_id (by omega) (by omega)]
        rfl
      have mh := fun Q => x_milesBt (L := L) hS hLr (l := l) (a := a) (b := h) hl (by omega) (by omega) Q
      rw [e_42_3]
      simp only [brI, not_true_eq_false, true_implies, false_implies, implies_true, and_true, cTag, cTgt, cLen, true_and, Int.toNat_natCast, retI_I, retR_R, retV_N, retL_L, ne_eq, Int.reduceEq, not_false_eq_true, e0, mh, e_42_29]
      rw [if_neg (by omega)]
      by_cases c0 : A = 0
      · rw [if_pos c0] at hf
        rw [if_neg (fun q => q (by omega)), ← hf]; exact e31
      · rw [if_neg c0] at hf
        rw [if_pos (by omega), ← hf]; exact e31
    · intro o ho
      show up ρ 40 (6 * A + a) (fF S l h n 7 A a) o = σ o
      funext i; rw [up_rd, if_neg (by omega), hF o ho]
    · intro j hj
      show up ρ 40 (6 * A + a) (fF S l h n 7 A a) 40 j = σ 40 j
      rw [up_rd, if_neg (by omega)]; exact hK j hj
    · intro c hc
      show up ρ 40 (6 * A + a) (fF S l h n 7 A a) 40 (6 * A + c) = _
      rw [up_rd]
      by_cases e : c = a
      · rw [e]; simp
      · rw [if_neg (by omega)]; exact hD c (by omega)) (a := (σ, none, none)) ⟨fun _ _ => rfl, fun _ _ => rfl, fun c hc => by omega⟩
  have hF : Fr40 σ τ := hF
  have hRt : RC 1 S τ := RC_eq (fun o ho => hF o (by omega)) hR
  refine ⟨τ, fun Q => ?_, hF, hK, hD⟩
  rw [e_42_0]
  refine Eq.trans (e1 Q) ?_
  rw [e_42_3]
  simp only [brI, not_true_eq_false, true_implies, false_implies, implies_true, and_true, cTag, cTgt, cLen, true_and, Int.toNat_natCast, retI_I, retR_R, retV_N, retL_L, ne_eq, Int.reduceEq, not_false_eq_true, hRt.1 0 (by omega)]
  rw [if_pos (by omega), e_42_109]
end Tour
