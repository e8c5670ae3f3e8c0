/-! ROUND: the class's plan -/
section Plan
variable {B : Int} {S σ τ : Mem} {L v : Nat} {T : Ful}
def go (S : Mem) (l : Int) (h n a A : Nat) : Nat → Nat × Nat
  | 0 => (a, A)
  | k + 1 => (nt S l h n (go S l h n a A k).2 (go S l h n a A k).1, (go S l h n a A k).2 - 2 ^ nt S l h n (go S l h n a A k).2 (go S l h n a A k).1)
theorem sbs_t {A b m : Nat} (hA : A < 64) (hb : b < 6) (hbA : A.testBit b = true) (hm : sbs A m) : sbs (A - 2 ^ b) m := by
  intro i hi
  refine hm i ?_
  have q : ∀ A : Nat, A < 64 → ∀ b : Nat, b < 6 → A.testBit b = true → ∀ i : Nat, i < 6 → (A - 2 ^ b).testBit i = true → A.testBit i = true := by decide +kernel
  by_cases h6 : i < 6
  · exact q A hA b hb hbA i h6 hi
  · have p : 2 ^ 6 ≤ 2 ^ i := Nat.pow_le_pow_right (by omega) (by omega)
    have h3 : A - 2 ^ b ≤ A := Nat.sub_le _ _
    have h4 : (2 : Nat) ^ 6 = 64 := rfl
    rw [Nat.testBit_lt_two_pow (Nat.lt_of_le_of_lt h3 (Nat.lt_of_lt_of_le (by omega) p))] at hi
    cases hi
theorem pc_0 : ∀ A : Nat, A < 64 → (pc A = 0 ↔ A = 0) := by decide +kernel
def GoI (S : Mem) (l : Int) (h n m k : Nat) (z : Nat × Nat) : Prop := z.2 < 64 ∧ sbs z.2 m ∧ z.2 ≤ m ∧ pc z.2 + k = pc m ∧ fF S l h n 7 z.2 z.1 < 1000000 ∧ z.1 < n
theorem go_i (hS : VS B S) {l : Int} {h n a m : Nat} (hn : n ≤ 6) (hm : m < 64) (ha : a < n) (hF : fF S l h n 7 m a < 1000000) : ∀ k, k ≤ pc m → GoI S l h n m k (go S l h n a m k) := by
  intro k
  induction k with
  | zero => intro _; exact ⟨hm, fun _ h => h, Nat.le_refl _, rfl, hF, ha⟩
  | succ k ih =>
    intro hk
    obtain ⟨i1, i2, i3, i4, i5, i6⟩ := ih (by omega)
    show GoI S l h n m (k + 1) (nt S l h n (go S l h n a m k).2 (go S l h n a m k).1, (go S l h n a m k).2 - 2 ^ nt S l h n (go S l h n a m k).2 (go S l h n a m k).1)
    generalize go S l h n a m k = z at *
    obtain ⟨c, A⟩ := z
    simp only at i1 i2 i3 i4 i5 i6 ⊢
    have h0 : ¬ A = 0 := fun q => by have := (pc_0 A i1).mpr q; omega
    obtain ⟨s1, s2, -⟩ := nt_sp hn h0 i5
    obtain ⟨t1, t2, -⟩ := take1 A i1 _ (by omega) s1.1
    have hp := (pc6 m hm).2
    have hd := dd_b hS l c (nt S l h n A c)
    refine ⟨by show A - _ < 64; omega, sbs_t i1 (by omega) s1.1 i2, by show A - _ ≤ m; omega, by show pc (A - _) + (k + 1) = _; omega, ?_, s2⟩
    show fF S l h n 7 (A - 2 ^ nt S l h n A c) (nt S l h n A c) < 1000000
    rw [fF_k (S := S) hn 7 6 _ _ (by omega) (by omega) (by omega)]
    have := s1.2
    omega
def Fr9 (σ τ : Mem) : Prop := (∀ o, o ≠ 39 → o ≠ 41 → τ o = σ o) ∧ τ 39 3 = σ 39 3
theorem x_order (hS : VS B S) (hL : LdC S σ) {l h n m s : Nat} (hl : l < 2) (hn : (n : Int) = S 0 0) (hm : m < 64) (hmn : ∀ b, m.testBit b = true → b < n) (hT : Tb S l h n m (m + 1) σ) (hs : s < n) (h2 : σ 39 2 = 0) (hF : fF S l h n 7 m s < 1000000) : ∃ τ, (∀ Q : PQ, X L 45 0 [some (xR 39), some (xR 36), some (xI (s : Int)), some (xI (l : Int)), some (xI (m : Int)), none, none, none] [] σ Q = Q none τ) ∧ Fr9 σ τ ∧ τ 39 2 = (pc m : Int) ∧ ∀ j, j < pc m → τ 41 j = ((go S l h n s m (j + 1)).1 : Int) := by
  have hn6 := hS.1
  have hp := (pc6 m hm).2
  have gi := go_i hS (l := (l : Int)) (h := h) (n := n) (a := s) (m := m) (by omega) hm hs hF
  obtain ⟨τ, e1, hFr, hc, hD⟩ := lpE (n := pc m) (fun k (ρ : Mem) Q => X L 45 10 [some (xR 39), some (xR 36), some (xI (s : Int)), some (xI (l : Int)), some (xI (m : Int)), some (xI ((go S l h n s m k).1 : Int)), some (xI ((go S l h n s m k).2 : Int)), some (xI (k : Int))] [] ρ Q) (fun k ρ => Fr9 σ ρ ∧ ρ 39 2 = (k : Int) ∧ ∀ j, j < k → ρ 41 j = ((go S l h n s m (j + 1)).1 : Int)) (by
    intro k ρ hk ⟨hFr, hc, hD⟩
    obtain ⟨i1, i2, i3, i4, i5, i6⟩ := gi k (by omega)
    have eg : go S l h n s m (k + 1) = (nt S l h n (go S l h n s m k).2 (go S l h n s m k).1, (go S l h n s m k).2 - 2 ^ nt S l h n (go S l h n s m k).2 (go S l h n s m k).1) := rfl
    have hD' := hD
    generalize hz : go S l h n s m k = z at *
    obtain ⟨c, A⟩ := z
    simp only at i1 i2 i3 i4 i5 i6 eg ⊢
    have h0 : ¬ A = 0 := fun q => by have := (pc_0 A i1).mpr q; omega
    obtain ⟨s1, s2, -⟩ := nt_sp (show n ≤ 6 by omega) h0 i5
    obtain ⟨t1, t2, t3⟩ := take1 A i1 _ (by omega) s1.1
    have hLr : LdC S ρ := fun l a b h1 h2 h3 => by rw [hFr.1 37 (by omega) (by omega)]; exact hL l a b h1 h2 h3
    have hTr : Tb S l h n m (A + 1) ρ := fun C d h1 h2 h3 => by rw [hFr.1 40 (by omega) (by omega)]; exact hT C d (by omega) h2 h3
    have nt1 := fun Q => x_nextT (L := L) hS hLr hl hn i1 i2 hTr i6 (fun b hb => hmn b (i2 b hb)) (show nt S l h n A c < 6 by omega) s1 Q
    have hpA : ∀ x : Int, pA L ρ 41 (k : Int) x = up ρ 41 k x := by
      intro x
      unfold pA
      rw [if_pos ⟨by omega, by show (k : Int) < 6; omega⟩, Int.toNat_natCast]
    refine ⟨up (up ρ 41 k (nt S l h n A c : Int)) 39 2 ((k + 1 : Nat) : Int), fun Q => ?_, ⟨fun o o1 o2 => ?_, ?_⟩, ?_, fun j hj => ?_⟩
    · rw [eg]
      simp only
      rw [e_45_10]
      simp only [brI, not_true_eq_false, true_implies, false_implies, implies_true, and_true, cTag, cTgt, cLen, true_and, Int.toNat_natCast, retI_I, retR_R, retV_N, retL_L, ne_eq, Int.reduceEq, not_false_eq_true, nt1, x_put L 41 _ _ _ _ rfl, hpA, t3, up_rd, hc, show ¬ ((39 : Nat) = 41) by omega, false_and, if_false]
      rw [if_neg (by omega), if_neg (by omega), w32_id (by omega) (by omega)]
      rfl
    · funext i; rw [up_rd, if_neg (by omega), up_rd, if_neg (by omega), hFr.1 o o1 o2]
    · rw [up_rd, if_neg (by omega), up_rd, if_neg (by omega)]; exact hFr.2
    · rw [up_rd, if_pos ⟨rfl, rfl⟩]
    · rw [up_rd, if_neg (by omega), up_rd]
      by_cases e : j = k
      · subst e; rw [eg]; simp
      · rw [if_neg (by omega)]; exact hD' j (by omega)) (a := σ) ⟨⟨fun _ _ _ => rfl, rfl⟩, h2, fun j hj => by omega⟩
  refine ⟨τ, fun Q => ?_, hFr, hc, hD⟩
  obtain ⟨i1, i2, i3, i4, i5, i6⟩ := gi (pc m) (Nat.le_refl _)
  have hz := (pc_0 _ i1).mp (by omega)
  rw [e_45_0]
  refine Eq.trans (e1 Q) ?_
  rw [e_45_10, hz]
  simp only [brI, not_true_eq_false, true_implies, false_implies, implies_true, and_true, cTag, cTgt, cLen, true_and, Int.toNat_natCast, retI_I, retR_R, retV_N, retL_L, ne_eq, Int.reduceEq, not_false_eq_true, e_45_72]
  by_cases c : 6 ≤ (pc m : Int)
  · rw [if_pos c]
  · rw [if_neg c, if_pos (by omega)]
end Plan
