/-! ROUND: the Model, one row -/
section RowM
variable {B : Int} {S σ τ : Mem} {L v : Nat} {T : Ful}
def la : Nat → List Nat → Nat
  | a, [] => a
  | _, b :: r => la b r
theorem x_rowM (hS : VS B S) (hL : LdF S σ) {l h q m K : Nat} (hl : l < 2) (hq : q < 4) (hh : h < 6) (h82 : σ 82 q = (h : Int)) (i best : Int) (Q : PQ) : ∀ (r pre : List Nat) (a : Nat) (s : Int), a < 6 → 0 ≤ s → s ≤ 1000000 → (pre ++ r).length = K → K ≤ 6 → Rw (pre ++ r) σ → (∀ b, b ∈ r → b < 6) → X L 188 112 [some (xR 75), some (xI (q : Int)), some (xI (m : Int)), some (xI i), some (xI (l : Int)), some (xI (K : Int)), some (xI best), some (xI 1), some (xI (a : Int)), some (xI s), some (xI (pre.length : Int))] [] σ Q = if best ≤ rm S l h a s r then X L 188 220 [some (xR 75), some (xI (q : Int)), some (xI (m : Int)), some (xI i), some (xI (l : Int)), some (xI (K : Int)), some (xI best), some (xI 1), some (xI (la a r : Int)), some (xI (rm S l h a s r)), some (xI (K : Int))] [] σ Q else X L 188 193 [some (xR 75), some (xI (q : Int)), some (xI (m : Int)), some (xI i), some (xI (l : Int)), some (xI (K : Int)), some (xI (rm S l h a s r)), some (xI 1), some (xI (la a r : Int)), some (xI (rm S l h a s r)), some (xI 0)] [] σ Q := by
  intro r
  induction r with
  | nil =>
    intro pre a s ha hs hs2 hK hK6 hR hb
    have hd := dd_b hS l a h
    have hK2 : pre.length = K := by rw [← hK]; simp
    have fa := fun Q => x_farOf (L := L) hS hL hl ha hh Q
    have sa := fun Q => x_sum (L := L) (σ := σ) s (dd S l a h) (by omega) (by omega) Q
    rw [e_188_112]
    simp only [brI]
    rw [if_pos (by omega), e_188_157]
    simp only [brI, not_true_eq_false, true_implies, false_implies, implies_true, and_true, cTag, cTgt, cLen, true_and, Int.toNat_natCast, retI_I, retR_R, retV_N, retL_L, ne_eq, Int.reduceEq, not_false_eq_true, show (0 ≤ (q : Int) ∧ (q : Int) < 4) by omega, h82, fa, sa, hK2]
    rfl
  | cons b r ih =>
    intro pre a s ha hs hs2 hK hK6 hR hb
    have hlen : pre.length + (r.length + 1) = K := by rw [← hK]; simp
    have h100 : σ 100 pre.length = (b : Int) := by
      rw [hR pre.length (by rw [hK]; omega)]
      simp [List.getD_eq_getElem?_getD]
    have hb6 := hb b (by simp)
    have hd := dd_b hS l a b
    have fa := fun Q => x_farOf (L := L) hS hL hl ha hb6 Q
    have sa := fun Q => x_sum (L := L) (σ := σ) s (dd S l a b) (by omega) (by omega) Q
    have sb := sat_b (a := s) (b := dd S l a b) hs hd.1
    have := ih (pre ++ [b]) b (sat s (dd S l a b)) hb6 sb.1 sb.2.1 (by rw [← hK]; simp) hK6 (by rw [show pre ++ [b] ++ r = pre ++ b :: r by simp]; exact hR) (fun c hc => hb c (by simp [hc]))
    rw [show (pre ++ [b]).length = pre.length + 1 by simp] at this
    rw [e_188_112]
    simp only [brI]
    rw [if_neg (by omega)]
    simp only [brI, not_true_eq_false, true_implies, false_implies, implies_true, and_true, cTag, cTgt, cLen, true_and, Int.toNat_natCast, retI_I, retR_R, retV_N, retL_L, ne_eq, Int.reduceEq, not_false_eq_true, show (0 ≤ (pre.length : Int) ∧ (pre.length : Int) < 6) by omega, h100, fa, sa, w32_id (x := (pre.length : Int) + 1) (by omega) (by omega)]
    exact this
theorem x_keepRow {l q m K : Nat} (hK : K ≤ 6) (i best : Int) (d8 d9 : Int) : ∃ τ, (∀ Q : PQ, X L 188 193 [some (xR 75), some (xI (q : Int)), some (xI (m : Int)), some (xI i), some (xI (l : Int)), some (xI (K : Int)), some (xI best), some (xI 1), some (xI d8), some (xI d9), some (xI 0)] [] σ Q = X L 188 220 [some (xR 75), some (xI (q : Int)), some (xI (m : Int)), some (xI i), some (xI (l : Int)), some (xI (K : Int)), some (xI best), some (xI 1), some (xI d8), some (xI d9), some (xI (K : Int))] [] τ Q) ∧ (∀ o, o ≠ 101 → τ o = σ o) ∧ ∀ j, j < K → τ 101 j = σ 100 j := by
  obtain ⟨τ, e1, hF, hD⟩ := lpE (n := K) (fun j (ρ : Mem) Q => X L 188 193 [some (xR 75), some (xI (q : Int)), some (xI (m : Int)), some (xI i), some (xI (l : Int)), some (xI (K : Int)), some (xI best), some (xI 1), some (xI d8), some (xI d9), some (xI (j : Int))] [] ρ Q) (fun j ρ => (∀ o, o ≠ 101 → ρ o = σ o) ∧ ∀ k, k < j → ρ 101 k = σ 100 k) (by
    intro j ρ hj ⟨hF, hD⟩
    refine ⟨up ρ 101 j (σ 100 j), fun Q => ?_, fun o ho => ?_, fun k hk => ?_⟩
    · show X L 188 193 [some (xR 75), some (xI (q : Int)), some (xI (m : Int)), some (xI i), some (xI (l : Int)), some (xI (K : Int)), some (xI best), some (xI 1), some (xI d8), some (xI d9), some (xI (j : Int))] [] ρ Q = X L 188 193 [some (xR 75), some (xI (q : Int)), some (xI (m : Int)), some (xI i), some (xI (l : Int)), some (xI (K : Int)), some (xI best), some (xI 1), some (xI d8), some (xI d9), some (xI ((j + 1 : Nat) : Int))] [] (up ρ 101 j (σ 100 j)) Q
      rw [e_188_193]
      simp only [brI]
      rw [if_neg (by omega)]
      simp only [brI, not_true_eq_false, true_implies, false_implies, implies_true, and_true, cTag, cTgt, cLen, true_and, Int.toNat_natCast, retI_I, retR_R, retV_N, retL_L, ne_eq, Int.reduceEq, not_false_eq_true, show (0 ≤ (j : Int) ∧ (j : Int) < 6) by omega, w32_id (x := (j : Int) + 1) (by omega) (by omega), hF 100 (by omega)]
      rfl
    · funext k; rw [up_rd, if_neg (by omega), hF o ho]
    · rw [up_rd]
      by_cases e : k = j
      · rw [if_pos ⟨rfl, e⟩, e]
      · rw [if_neg (by omega)]; exact hD k (by omega)) (a := σ) ⟨fun _ _ => rfl, fun k hk => by omega⟩
  refine ⟨τ, fun Q => ?_, hF, hD⟩
  refine Eq.trans (e1 Q) ?_
  show X L 188 193 [some (xR 75), some (xI (q : Int)), some (xI (m : Int)), some (xI i), some (xI (l : Int)), some (xI (K : Int)), some (xI best), some (xI 1), some (xI d8), some (xI d9), some (xI (K : Int))] [] τ Q = _
  rw [e_188_193]
  simp only [brI]
  rw [if_pos (by omega)]
theorem x_oneRow (hS : VS B S) (hL : LdF S σ) {l h a q m K : Nat} (hl : l < 2) (hq : q < 4) (hh : h < 6) (ha : a < 6) (h82 : σ 82 q = (h : Int)) (h85 : σ 85 q = (a : Int)) (i : Int) {r : List Nat} (hr : r.length = K) (hK : K ≤ 6) (hR : Rw r σ) (hb : ∀ b, b ∈ r → b < 6) {z : Int × List Nat} (hz : z.1 < 1000000 → ∀ j, j < K → σ 101 j = (z.2.getD j 0 : Int)) (d8 d9 d10 : Option PV) : ∃ (τ : Mem) (e8 e9 e10 : Int), (∀ Q : PQ, X L 188 93 [some (xR 75), some (xI (q : Int)), some (xI (m : Int)), some (xI i), some (xI (l : Int)), some (xI (K : Int)), some (xI z.1), some (xI 1), d8, d9, d10] [] σ Q = X L 188 220 [some (xR 75), some (xI (q : Int)), some (xI (m : Int)), some (xI i), some (xI (l : Int)), some (xI (K : Int)), some (xI (if z.1 ≤ sat 0 (rsm S l h a r) then z else (sat 0 (rsm S l h a r), r)).1), some (xI 1), some (xI e8), some (xI e9), some (xI e10)] [] τ Q) ∧ (∀ o, o ≠ 101 → τ o = σ o) ∧ ((if z.1 ≤ sat 0 (rsm S l h a r) then z else (sat 0 (rsm S l h a r), r)).1 < 1000000 → ∀ j, j < K → τ 101 j = ((if z.1 ≤ sat 0 (rsm S l h a r) then z else (sat 0 (rsm S l h a r), r)).2.getD j 0 : Int)) := by
  have st : ∀ Q : PQ, X L 188 93 [some (xR 75), some (xI (q : Int)), some (xI (m : Int)), some (xI i), some (xI (l : Int)), some (xI (K : Int)), some (xI z.1), some (xI 1), d8, d9, d10] [] σ Q = if z.1 ≤ sat 0 (rsm S l h a r) then X L 188 220 [some (xR 75), some (xI (q : Int)), some (xI (m : Int)), some (xI i), some (xI (l : Int)), some (xI (K : Int)), some (xI z.1), some (xI 1), some (xI (la a r : Int)), some (xI (sat 0 (rsm S l h a r))), some (xI (K : Int))] [] σ Q else X L 188 193 [some (xR 75), some (xI (q : Int)), some (xI (m : Int)), some (xI i), some (xI (l : Int)), some (xI (K : Int)), some (xI (sat 0 (rsm S l h a r))), some (xI 1), some (xI (la a r : Int)), some (xI (sat 0 (rsm S l h a r))), some (xI 0)] [] σ Q := by
    intro Q
    have := x_rowM (L := L) hS hL (m := m) hl hq hh h82 i z.1 Q r [] a 0 ha (Int.le_refl 0) (by omega) (by simpa using hr) hK hR hb
    rw [rm_rs hS l h r a 0 (Int.le_refl 0)] at this
    rw [e_188_93]
    simp only [brI]
    rw [if_neg (by omega)]
    simp only [brI, not_true_eq_false, true_implies, false_implies, implies_true, and_true, cTag, cTgt, cLen, true_and, Int.toNat_natCast, retI_I, retR_R, retV_N, retL_L, ne_eq, Int.reduceEq, not_false_eq_true, show (0 ≤ (q : Int) ∧ (q : Int) < 4) by omega, h85]
    exact this
  by_cases c : z.1 ≤ sat 0 (rsm S l h a r)
  · simp only [if_pos c] at st ⊢
    exact ⟨σ, _, _, _, st, fun _ _ => rfl, hz⟩
  · simp only [if_neg c] at st ⊢
    obtain ⟨τ, e1, hF, hD⟩ := x_keepRow (L := L) (σ := σ) (l := l) (q := q) (m := m) hK i (sat 0 (rsm S l h a r)) (la a r : Int) (sat 0 (rsm S l h a r))
    exact ⟨τ, _, _, _, fun Q => (st Q).trans (e1 Q), hF, fun _ j hj => (hD j hj).trans (hR j (by omega))⟩
theorem x_rows (hS : VS B S) {l h a q m K : Nat} (hl : l < 2) (hq : q < 4) (hh : h < 6) (ha : a < 6) (i : Int) (hK : K ≤ 6) : ∀ (ls : List (List Nat)) (r : List Nat) (σ : Mem) (z : Int × List Nat) (d8 d9 d10 : Option PV), LdF S σ → σ 82 q = (h : Int) → σ 85 q = (a : Int) → chk (r :: ls) = true → (∀ x, x ∈ r :: ls → x.length = K ∧ ∀ b, b ∈ x → b < 6) → Rw r σ → (z.1 < 1000000 → ∀ j, j < K → σ 101 j = (z.2.getD j 0 : Int)) → ∃ τ e8 e9 e10, (∀ Q : PQ, X L 188 93 [some (xR 75), some (xI (q : Int)), some (xI (m : Int)), some (xI i), some (xI (l : Int)), some (xI (K : Int)), some (xI z.1), some (xI 1), d8, d9, d10] [] σ Q = X L 188 231 [some (xR 75), some (xI (q : Int)), some (xI (m : Int)), some (xI i), some (xI (l : Int)), some (xI (K : Int)), some (xI (bst (fun r => sat 0 (rsm S l h a r)) (r :: ls) z).1), some (xI 0), e8, e9, e10] [] τ Q) ∧ (∀ o, o ≠ 100 → o ≠ 101 → τ o = σ o) ∧ ((bst (fun r => sat 0 (rsm S l h a r)) (r :: ls) z).1 < 1000000 → ∀ j, j < K → τ 101 j = ((bst (fun r => sat 0 (rsm S l h a r)) (r :: ls) z).2.getD j 0 : Int)) := by
  intro ls
  induction ls with
  | nil =>
    intro r σ z d8 d9 d10 hL h82 h85 hc hx hR hz
    obtain ⟨hr, hb⟩ := hx r (by simp)
    obtain ⟨τ, e8, e9, e10, e1, hF, hD⟩ := x_oneRow (L := L) (m := m) hS hL hl hq hh ha h82 h85 i hr hK hR hb hz d8 d9 d10
    have hR1 : Rw r τ := fun j hj => by rw [hF 100 (by omega)]; exact hR j hj
    have hc : pvt r (r.length - 1) = 0 := by simpa [chk] using hc
    have nr := (x_nextRow (L := L) (l := r) (by omega) hR1).1 hc
    rw [hr] at nr
    refine ⟨τ, some (xI e8), some (xI e9), some (xI e10), fun Q => ?_, fun o _ h2 => hF o h2, hD⟩
    rw [e1 Q, e_188_220]
    simp only [brI, not_true_eq_false, true_implies, false_implies, implies_true, and_true, cTag, cTgt, cLen, true_and, Int.toNat_natCast, retI_I, retR_R, retV_N, retL_L, ne_eq, Int.reduceEq, not_false_eq_true, nr]
    rw [e_188_93]
    simp only [brI, if_true]
    rfl
  | cons r1 ls ih =>
    intro r σ z d8 d9 d10 hL h82 h85 hc hx hR hz
    obtain ⟨hr, hb⟩ := hx r (by simp)
    obtain ⟨τ, e8, e9, e10, e1, hF, hD⟩ := x_oneRow (L := L) (m := m) hS hL hl hq hh ha h82 h85 i hr hK hR hb hz d8 d9 d10
    have hR1 : Rw r τ := fun j hj => by rw [hF 100 (by omega)]; exact hR j hj
    have hc : (¬ pvt r (r.length - 1) = 0 ∧ nx1 r (pvt r (r.length - 1)) = r1) ∧ chk (r1 :: ls) = true := by simpa [chk] using hc
    obtain ⟨⟨c1, c2⟩, c3⟩ := hc
    obtain ⟨ρ, e2, hF2, hR2⟩ := (x_nextRow (L := L) (l := r) (by omega) hR1).2 c1
    rw [c2] at hR2
    rw [hr] at e2
    obtain ⟨w, f8, f9, f10, e3, hF3, hD3⟩ := ih r1 ρ (if z.1 ≤ sat 0 (rsm S l h a r) then z else (sat 0 (rsm S l h a r), r)) (some (xI e8)) (some (xI e9)) (some (xI e10)) (fun l a b q1 q2 q3 => by rw [hF2 98 (by omega), hF 98 (by omega)]; exact hL l a b q1 q2 q3) (by rw [hF2 82 (by omega), hF 82 (by omega)]; exact h82) (by rw [hF2 85 (by omega), hF 85 (by omega)]; exact h85) c3 (fun x hx' => hx x (List.mem_cons_of_mem _ hx')) hR2 (fun q j hj => by rw [hF2 101 (by omega)]; exact hD q j hj)
    refine ⟨w, f8, f9, f10, fun Q => ?_, fun o h1 h2 => by rw [hF3 o h1 h2, hF2 o h1, hF o h2], hD3⟩
    rw [e1 Q, e_188_220]
    simp only [brI, not_true_eq_false, true_implies, false_implies, implies_true, and_true, cTag, cTgt, cLen, true_and, Int.toNat_natCast, retI_I, retR_R, retV_N, retL_L, ne_eq, Int.reduceEq, not_false_eq_true, e2]
    exact e3 Q
end RowM
