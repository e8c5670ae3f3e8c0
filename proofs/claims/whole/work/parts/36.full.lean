/-! the whole state: 0 the valley, 1 and 2 the images; 3: kept (0), signs' number (1), signs (2) -/
abbrev Ful : Type := Nat → Mem
def kp (T : Ful) (n : Nat) : Int := T 3 0 n
def pn (T : Ful) : Int := T 3 1 0
def sg (T : Ful) (j : Nat) : Int := T 3 2 j
def IC (T : Ful) (σ : Mem) : Prop := RC 1 (T 0) σ ∧ σ 31 0 = 0 ∧ (σ 55 0 = 0 ∧ σ 70 0 = 0) ∧ (∀ n, n < 2 → σ 17 n = kp T n ∧ (kp T n = 1 → RC (45 + 15 * n) (T (1 + n)) σ)) ∧ σ 18 1 = pn T ∧ (∀ j, j < 60 → σ 19 j = sg T j)
def IM (T : Ful) (σ : Mem) : Prop := RM (vP σ) (T 0) ∧ (∀ n, n < 2 → σ 103 n = kp T n ∧ (kp T n = 1 → RM (vI n σ) (T (1 + n)))) ∧ σ 75 19 = pn T ∧ (∀ j, j < 60 → σ 90 j = sg T j)
def IV (B : Int) (T : Ful) : Prop := VS B (T 0) ∧ (∀ n, n < 2 → (kp T n = 0 ∨ kp T n = 1) ∧ (kp T n = 1 → VS B (T (1 + n)))) ∧ (0 ≤ pn T ∧ pn T ≤ 60) ∧ (∀ j, j < 60 → 0 ≤ sg T j ∧ sg T j ≤ 126)
/-- what a question of the class leaves as it was -/
def FrQ (σ τ : Mem) : Prop := (∀ o, o < 20 ∨ 45 ≤ o → τ o = σ o) ∧ τ 31 0 = 0
/-- what a question of the Model leaves as it was -/
def FrM (σ τ : Mem) : Prop := (∀ o, o < 75 ∨ (76 ≤ o ∧ o ≤ 90) ∨ 102 ≤ o → τ o = σ o) ∧ (∀ j, j < 28 → τ 75 j = σ 75 j)
theorem FrQ.tr {a b c : Mem} (h1 : FrQ a b) (h2 : FrQ b c) : FrQ a c := ⟨fun o h => (h2.1 o h).trans (h1.1 o h), h2.2⟩
theorem FrM.tr {a b c : Mem} (h1 : FrM a b) (h2 : FrM b c) : FrM a c := ⟨fun o h => (h2.1 o h).trans (h1.1 o h), fun j h => (h2.2 j h).trans (h1.2 j h)⟩
theorem FrM.rf {a : Mem} : FrM a a := ⟨fun _ _ => rfl, fun _ _ => rfl⟩
theorem RM_cg {f g : Nat → Nat → Int} {S : Mem} (h : g = f) (hM : RM f S) : RM g S := by rw [h]; exact hM
theorem vP_eq {σ τ : Mem} (h : ∀ o, 76 ≤ o ∧ o ≤ 89 → τ o = σ o) (h75 : ∀ j, j < 28 → τ 75 j = σ 75 j) : vP τ = vP σ := by
  funext k j
  unfold vP
  split
  · split
    · exact h75 0 (by omega)
    · exact h75 7 (by omega)
    · exact h75 8 (by omega)
    · exact h75 17 (by omega)
    · exact h75 9 (by omega)
  all_goals (first | rw [h 76 (by omega)] | rw [h 77 (by omega)] | rw [h 78 (by omega)] | rw [h 79 (by omega)] | rw [h 80 (by omega)] | rw [h 81 (by omega)] | rw [h 89 (by omega)] | rw [h 82 (by omega)] | rw [h 83 (by omega)] | rw [h 84 (by omega)] | rw [h 85 (by omega)] | rw [h 86 (by omega)] | rw [h 87 (by omega)] | rw [h 88 (by omega)])
theorem vI_eq {n : Nat} {σ τ : Mem} (h : τ 102 = σ 102) : vI n τ = vI n σ := by
  funext k j
  unfold vI
  simp only [h]
section Ful
variable {T : Ful} {σ τ : Mem} {B : Int}
theorem RC_eq {v : Nat} {S : Mem} (h : ∀ o, v ≤ o ∧ o < v + 15 → τ o = σ o) (hR : RC v S σ) : RC v S τ := by
  obtain ⟨h1, h2, h3, h4, h5, h6, h7, h8, h9, h10, h11⟩ := hR
  refine ⟨?_, ?_, ?_, ?_, ?_, ?_, ?_, ?_, ?_, ?_, ?_⟩
  · intro j hj; rw [h v (by omega)]; exact h1 j hj
  · intro a b q q'; rw [h (v + 1) (by omega)]; exact h2 a b q q'
  · intro a b q q'; rw [h (v + 2) (by omega)]; exact h3 a b q q'
  · intro a b f q q' hf; rw [h (v + 3) (by omega)]; exact h4 a b f q q' hf
  · intro j hj; rw [h (v + 4) (by omega)]; exact h5 j hj
  · intro j hj; rw [h (v + 5) (by omega)]; exact h6 j hj
  · intro j hj; rw [h (v + 6) (by omega)]; exact h7 j hj
  · intro j hj; rw [h (v + 7) (by omega)]; exact h8 j hj
  · intro j hj; rw [h (v + 8) (by omega)]; exact h9 j hj
  · intro p f hp hf; rw [h (v + 11 + p) (by omega)]; exact h10 p f hp hf
  · rw [h (v + 10) (by omega)]; exact h11
theorem IC_Q (hI : IC T σ) (hF : FrQ σ τ) : IC T τ := by
  obtain ⟨h1, h2, h3, h4, h5, h6⟩ := hI
  refine ⟨RC_eq (fun o ho => hF.1 o (by omega)) h1, hF.2, ?_, ?_, ?_, ?_⟩
  · rw [hF.1 55 (by omega), hF.1 70 (by omega)]; exact h3
  · intro n hn
    rw [hF.1 17 (by omega)]
    exact ⟨(h4 n hn).1, fun k => RC_eq (fun o ho => hF.1 o (by omega)) ((h4 n hn).2 k)⟩
  · rw [hF.1 18 (by omega)]; exact h5
  · intro j hj; rw [hF.1 19 (by omega)]; exact h6 j hj
theorem IM_Q (hI : IM T σ) (hF : FrM σ τ) : IM T τ := by
  obtain ⟨h1, h2, h3, h4⟩ := hI
  refine ⟨RM_cg (vP_eq (fun o ho => hF.1 o (by omega)) hF.2) h1, ?_, ?_, ?_⟩
  · intro n hn
    rw [hF.1 103 (by omega)]
    exact ⟨(h2 n hn).1, fun k => RM_cg (vI_eq (hF.1 102 (by omega))) ((h2 n hn).2 k)⟩
  · rw [hF.2 19 (by omega)]; exact h3
  · intro j hj; rw [hF.1 90 (by omega)]; exact h4 j hj
theorem IC_M (hI : IC T σ) (h : ∀ o, o < 75 → τ o = σ o) : IC T τ := by
  obtain ⟨h1, h2, h3, h4, h5, h6⟩ := hI
  refine ⟨RC_eq (fun o ho => h o (by omega)) h1, by rw [h 31 (by omega)]; exact h2, ?_, ?_, ?_, ?_⟩
  · rw [h 55 (by omega), h 70 (by omega)]; exact h3
  · intro n hn
    rw [h 17 (by omega)]
    exact ⟨(h4 n hn).1, fun k => RC_eq (fun o ho => h o (by omega)) ((h4 n hn).2 k)⟩
  · rw [h 18 (by omega)]; exact h5
  · intro j hj; rw [h 19 (by omega)]; exact h6 j hj
theorem IM_C (hI : IM T σ) (h : ∀ o, 75 ≤ o → τ o = σ o) : IM T τ := by
  obtain ⟨h1, h2, h3, h4⟩ := hI
  refine ⟨RM_cg (vP_eq (fun o ho => h o (by omega)) (fun j _ => by rw [h 75 (by omega)])) h1, ?_, ?_, ?_⟩
  · intro n hn
    rw [h 103 (by omega)]
    exact ⟨(h2 n hn).1, fun k => RM_cg (vI_eq (h 102 (by omega))) ((h2 n hn).2 k)⟩
  · rw [h 75 (by omega)]; exact h3
  · intro j hj; rw [h 90 (by omega)]; exact h4 j hj
theorem IV.mono {B' : Int} (h : IV B T) (hb : B ≤ B') : IV B' T := by
  obtain ⟨h1, h2, h3, h4⟩ := h
  exact ⟨h1.mono hb, fun n hn => ⟨(h2 n hn).1, fun k => ((h2 n hn).2 k).mono hb⟩, h3, h4⟩
/-- another valley, the rest as it was -/
def setV (T : Ful) (S : Mem) : Ful := fun k => if k = 0 then S else T k
def setP (T : Ful) (n : Int) : Ful := fun k => if k = 3 then (fun a j => if a = 1 then n else T 3 a j) else T k
end Ful
