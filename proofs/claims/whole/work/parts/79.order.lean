/-! ROUND: the order -/
section Order
variable {B : Int} {S σ τ : Mem} {L v : Nat} {T : Ful}
abbrev ntC (S : Mem) (l : Int) (h n A a b : Nat) : Prop := A.testBit b = true ∧ dd S l a b + fF S l h n 6 (A - 2 ^ b) b = fF S l h n 7 A a
def nt (S : Mem) (l : Int) (h n A a : Nat) : Nat := fnd (ntC S l h n A a) 6 0
theorem Tb.mono {l : Int} {h n m A C : Nat} (hT : Tb S l h n m A σ) (h1 : C ≤ A) : Tb S l h n m C σ := fun D a h2 h3 h4 => hT D a (by omega) h3 h4
theorem x_nextT (hS : VS B S) (hL : LdC S σ) {l h n m A a w : Nat} (hl : l < 2) (hn : (n : Int) = S 0 0) (hA : A < 64) (hm : sbs A m) (hT : Tb S l h n m (A + 1) σ) (ha : a < n) (hAn : ∀ b, A.testBit b = true → b < n) (hw : w < 6) (hw2 : ntC S l h n A a w) (Q : PQ) : X L 46 0 [some (xR 39), some (xR 36), some (xI (a : Int)), some (xI (l : Int)), some (xI (A : Int)), none, none] [] σ Q = Q (some (xI (nt S l h n A a : Int))) σ := by
  have hn6 := hS.1
  obtain ⟨s1, s2, s3, -⟩ := fnd_sp (ntC S l h n A a) 6 0 w (by omega) (by omega) hw2
  have hnt : fnd (ntC S l h n A a) 6 0 = nt S l h n A a := rfl
  rw [hnt] at s1 s2 s3
  have f7 := fun Q => x_fewF (L := L) (σ := σ) (C := A) (a := a) hA (by omega) Q
  rw [hT A a (by omega) hm ha] at f7
  have lp : ∀ (k v : Nat) (d : Option PV), v + k = nt S l h n A a → X L 46 3 [some (xR 39), some (xR 36), some (xI (a : Int)), some (xI (l : Int)), some (xI (A : Int)), some (xI (v : Int)), d] [] σ Q = Q (some (xI (nt S l h n A a : Int))) σ := by
    intro k
    induction k with
    | zero =>
      intro v d hv
      have e : v = nt S l h n A a := by omega
      rw [← e] at s1 s2 ⊢
      have hbb := bit_n (a := A) (k := v) (by omega) (by omega)
      have ov := fun Q => x_overT (L := L) hS hL hl hn hA hm (hT.mono (by omega)) ha (hAn v s1.1) s1.1 Q
      rw [e_46_3]
      simp only [brI, not_true_eq_false, true_implies, false_implies, implies_true, and_true, cTag, cTgt, cLen, true_and, Int.toNat_natCast, retI_I, retR_R, retV_N, retL_L, ne_eq, Int.reduceEq, not_false_eq_true, x_isIn, bI_0, ov, f7]
      rw [if_neg (by omega), if_neg (fun q => q (hbb.mpr s1.1)), if_neg (fun q => q s1.2)]
    | succ k ih =>
      intro v d hv
      have c := s3 v (by omega) (by omega)
      have hbb := bit_n (a := A) (k := v) (by omega) (by omega)
      have nx : ∀ (x : Int), X L 46 48 [some (xR 39), some (xR 36), some (xI (a : Int)), some (xI (l : Int)), some (xI (A : Int)), some (xI (v : Int)), some (xI x)] [] σ Q = Q (some (xI (nt S l h n A a : Int))) σ := by
        intro x; rw [e_46_48, w32_id (by omega) (by omega)]; exact ih (v + 1) _ (by omega)
      rw [e_46_3]
      by_cases cb : A.testBit v = true
      · have ov := fun Q => x_overT (L := L) hS hL hl hn hA hm (hT.mono (by omega)) ha (hAn v cb) cb Q
        simp only [brI, not_true_eq_false, true_implies, false_implies, implies_true, and_true, cTag, cTgt, cLen, true_and, Int.toNat_natCast, retI_I, retR_R, retV_N, retL_L, ne_eq, Int.reduceEq, not_false_eq_true, x_isIn, bI_0, ov, f7, nx]
        rw [if_neg (by omega), if_neg (fun q => q (hbb.mpr cb)), if_pos (fun q => c ⟨cb, q⟩)]
      · simp only [brI, not_true_eq_false, true_implies, false_implies, implies_true, and_true, cTag, cTgt, cLen, true_and, Int.toNat_natCast, retI_I, retR_R, retV_N, retL_L, ne_eq, Int.reduceEq, not_false_eq_true, x_isIn, bI_0, nx]
        rw [if_neg (by omega), if_pos (fun q => cb (hbb.mp q))]
  rw [e_46_0]
  exact lp (nt S l h n A a) 0 none (by omega)
/-- where a least is reached -/
theorem gm_at {A : Nat} {f : Int} {g : Nat → Int} : ∀ n, gm A f g n = f ∨ ∃ b, b < n ∧ A.testBit b = true ∧ g b = gm A f g n := by
  intro n
  induction n with
  | zero => exact Or.inl rfl
  | succ n ih =>
    simp only [gm]
    by_cases c : A.testBit n = true
    · rw [if_pos c]
      unfold fMin
      split
      · rcases ih with h | ⟨b, h1, h2, h3⟩
        · first | exact Or.inl h | exact Or.inr ⟨n, by omega, c, rfl⟩
        · first | exact Or.inr ⟨b, by omega, h2, h3⟩ | exact Or.inr ⟨n, by omega, c, rfl⟩
      · rcases ih with h | ⟨b, h1, h2, h3⟩
        · first | exact Or.inl h | exact Or.inr ⟨n, by omega, c, rfl⟩
        · first | exact Or.inr ⟨b, by omega, h2, h3⟩ | exact Or.inr ⟨n, by omega, c, rfl⟩
    · rw [if_neg c]
      rcases ih with h | ⟨b, h1, h2, h3⟩
      · exact Or.inl h
      · exact Or.inr ⟨b, by omega, h2, h3⟩
theorem nt_ex {l : Int} {h n A a : Nat} (h0 : ¬ A = 0) (hF : fF S l h n 7 A a < 1000000) : ∃ b, b < n ∧ ntC S l h n A a b := by
  have e : fF S l h n 7 A a = fMin (gm A (if A = 0 then dd S l a h else 1000000) (fun b => dd S l a b + fF S l h n 6 (A - 2 ^ b) b) n) 1000000 := rfl
  rw [if_neg h0] at e
  have hg := gm_at (A := A) (f := 1000000) (g := fun b => dd S l a b + fF S l h n 6 (A - 2 ^ b) b) n
  have e2 : fF S l h n 7 A a = gm A 1000000 (fun b => dd S l a b + fF S l h n 6 (A - 2 ^ b) b) n := by
    rw [e] at hF ⊢
    unfold fMin at hF ⊢
    split <;> first | rfl | (rename_i q; rw [if_pos q] at hF; omega) | (rename_i q; rw [if_neg q] at hF; omega)
  rcases hg with hg | ⟨b, h1, h2, h3⟩
  · omega
  · exact ⟨b, h1, h2, by rw [e2]; exact h3⟩
theorem nt_sp {l : Int} {h n A a : Nat} (hn : n ≤ 6) (h0 : ¬ A = 0) (hF : fF S l h n 7 A a < 1000000) : ntC S l h n A a (nt S l h n A a) ∧ nt S l h n A a < n ∧ ∀ b, b < nt S l h n A a → ¬ ntC S l h n A a b := by
  obtain ⟨b, h1, h2⟩ := nt_ex h0 hF
  obtain ⟨s1, s2, s3, -⟩ := fnd_sp (ntC S l h n A a) 6 0 b (by omega) (by omega) h2
  exact ⟨s1, Nat.lt_of_le_of_lt s2 h1, fun x hx => s3 x (by omega) hx⟩
end Order
