/-! ROUND, asked of the Model -/
section MRound
variable {B : Int} {S σ τ : Mem} {L v : Nat} {T : Ful}
def fr (A : Nat) (t : Nat) : List Nat := (List.range t).filter (fun b => A.testBit b)
theorem prm_hd : ∀ A : Nat, A < 64 → (prm 6 A).head? = some (fr A 6) := by decide +kernel
theorem prm_len : ∀ A : Nat, A < 64 → ((prm 6 A).all (fun r => (r.length == pc A) && r.all (fun b => decide (b < 6)))) = true := by decide +kernel
theorem fr_s (A t : Nat) : fr A (t + 1) = if A.testBit t = true then fr A t ++ [t] else fr A t := by
  unfold fr
  rw [List.range_succ, List.filter_append]
  split
  · rename_i c; simp [c]
  · rename_i c; simp [c]
theorem fr_n {A n : Nat} (hA : ∀ b, A.testBit b = true → b < n) : ∀ k, fr A (n + k) = fr A n := by
  intro k
  induction k with
  | zero => rfl
  | succ k ih =>
    rw [← Nat.add_assoc, fr_s, if_neg, ih]
    intro q
    have := hA _ q
    omega
theorem fr_l (A : Nat) : ∀ t, (fr A t).length ≤ t := by
  intro t
  induction t with
  | zero => exact Nat.le_refl _
  | succ t ih =>
    rw [fr_s]
    split
    · rw [List.length_append, List.length_singleton]; omega
    · omega
theorem x_fillM {n q m l : Nat} (hn : σ 75 0 = (n : Int)) (hn6 : n ≤ 6) (hm : m < 64) (i : Int) : ∃ τ, (∀ Q : PQ, X L 188 50 [some (xR 75), some (xI (q : Int)), some (xI (m : Int)), some (xI i), some (xI (l : Int)), some (xI 0), some (xI 0), none, none, none, none] [] σ Q = X L 188 86 [some (xR 75), some (xI (q : Int)), some (xI (m : Int)), some (xI i), some (xI (l : Int)), some (xI ((fr m n).length : Int)), some (xI (n : Int)), none, none, none, none] [] τ Q) ∧ Fr100 σ τ ∧ Rw (fr m n) τ := by
  obtain ⟨τ, e1, hF, hR⟩ := lpE (n := n) (fun t (ρ : Mem) Q => X L 188 50 [some (xR 75), some (xI (q : Int)), some (xI (m : Int)), some (xI i), some (xI (l : Int)), some (xI ((fr m t).length : Int)), some (xI (t : Int)), none, none, none, none] [] ρ Q) (fun t ρ => Fr100 σ ρ ∧ Rw (fr m t) ρ) (by
    intro t ρ ht ⟨hF, hR⟩
    have h75 : ρ 75 0 = (n : Int) := by rw [hF 75 (by omega)]; exact hn
    have hbb := bit_n (a := m) (k := t) (by omega) (by omega)
    have hle := fr_l m t
    by_cases c : m.testBit t = true
    · have e : fr m (t + 1) = fr m t ++ [t] := by rw [fr_s, if_pos c]
      have el : (fr m (t + 1)).length = (fr m t).length + 1 := by rw [e]; simp
      refine ⟨up ρ 100 (fr m t).length (t : Int), fun Q => ?_, fun o ho => ?_, ?_⟩
      · rw [e_188_50]
        simp only [brI, not_true_eq_false, true_implies, false_implies, implies_true, and_true, cTag, cTgt, cLen, true_and, Int.toNat_natCast, retI_I, retR_R, retV_N, retL_L, ne_eq, Int.reduceEq, not_false_eq_true, h75, x_has, bI_0]
        rw [if_neg (by omega), if_neg (fun q => q (hbb.mpr c))]
        simp only [brI, not_true_eq_false, true_implies, false_implies, implies_true, and_true, cTag, cTgt, cLen, true_and, Int.toNat_natCast, retI_I, retR_R, retV_N, retL_L, ne_eq, Int.reduceEq, not_false_eq_true, show (0 ≤ ((fr m t).length : Int) ∧ ((fr m t).length : Int) < 6) by omega, w32_id (x := ((fr m t).length : Int) + 1) (by omega) (by omega)]
        rw [e_188_80, w32_id (x := (t : Int) + 1) (by omega) (by omega), el]
        rfl
      · funext k; rw [up_rd, if_neg (by omega), hF o ho]
      · intro j hj
        rw [el] at hj
        rw [up_rd, e]
        by_cases c2 : j = (fr m t).length
        · rw [if_pos ⟨rfl, c2⟩, c2]
          simp [List.getD_eq_getElem?_getD]
        · rw [if_neg (by omega), hR j (by omega), List.getD_eq_getElem?_getD, List.getD_eq_getElem?_getD, List.getElem?_append_left (by omega)]
    · have e : fr m (t + 1) = fr m t := by rw [fr_s, if_neg c]
      refine ⟨ρ, fun Q => ?_, hF, by rw [e]; exact hR⟩
      rw [e_188_50]
      simp only [brI, not_true_eq_false, true_implies, false_implies, implies_true, and_true, cTag, cTgt, cLen, true_and, Int.toNat_natCast, retI_I, retR_R, retV_N, retL_L, ne_eq, Int.reduceEq, not_false_eq_true, h75, x_has, bI_0]
      rw [if_neg (by omega), if_pos (fun q => c (hbb.mp q)), e_188_80, w32_id (x := (t : Int) + 1) (by omega) (by omega), e]
      rfl) (a := σ) ⟨fun _ _ => rfl, fun j hj => by
      have : (fr m 0).length = 0 := rfl
      omega⟩
  refine ⟨τ, fun Q => ?_, hF, hR⟩
  refine Eq.trans (e1 Q) ?_
  show X L 188 50 [some (xR 75), some (xI (q : Int)), some (xI (m : Int)), some (xI i), some (xI (l : Int)), some (xI ((fr m n).length : Int)), some (xI (n : Int)), none, none, none, none] [] τ Q = _
  have h75 : τ 75 0 = (n : Int) := by rw [hF 75 (by omega)]; exact hn
  rw [e_188_50]
  simp only [brI, not_true_eq_false, true_implies, false_implies, implies_true, and_true, cTag, cTgt, cLen, true_and, Int.toNat_natCast, retI_I, retR_R, retV_N, retL_L, ne_eq, Int.reduceEq, not_false_eq_true, h75, Int.le_refl, if_true]
theorem m_round (hI : IM T σ) (hV : IV B T) (hB : B ≤ 1000000) (p m i : Int) : MO σ (X L 188 0 [some (xR 75), some (xI p), some (xI m), some (xI i), none, none, none, none, none, none, none] [] σ) (a_round T p m i) T := by
  have hn0 := hV.1.1
  unfold a_round
  by_cases c : thr (T 0) p = 0
  · rw [if_neg (fun q => q c)]
    refine MO_n hI (fun Q => ?_)
    simp only [e_188_0, brI, not_true_eq_false, true_implies, false_implies, implies_true, and_true, cTag, cTgt, cLen, true_and, Int.toNat_natCast, retI_I, retR_R, retV_N, retL_L, ne_eq, Int.reduceEq, not_false_eq_true, x_isThereM hV.1 hI.th, c, if_true, if_false]
  · rw [if_pos c]
    obtain ⟨q, hq, rfl, h1⟩ := thr_in (B := B) c
    have hone := h1 hV.1
    obtain ⟨n, hn, hn2, hn6⟩ := tn hV
    have hnn : (T 0 0 0).toNat = n := by omega
    rw [hnn]
    have h2 : 2 ^ n ≤ 2 ^ 6 := Nat.pow_le_pow_right (by omega) (by omega)
    have h2 : 2 ^ n ≤ 64 := h2
    have h1 : 1 ≤ 2 ^ n := Nat.one_le_two_pow
    have e75 : σ 75 0 = (n : Int) := by rw [hI.tw]; exact hn.symm
    have hall : w32 (shl32 1 (n : Int) - 1) = ((2 ^ n - 1 : Nat) : Int) := by
      rw [shl32_n (by omega), w32_id (by omega) (by omega)]; omega
    by_cases cm : 0 ≤ m ∧ m ≤ ((2 ^ n - 1 : Nat) : Int)
    · rw [if_pos cm]
      obtain ⟨m, rfl⟩ : ∃ a : Nat, m = (a : Int) := ⟨m.toNat, by omega⟩
      simp only [Int.toNat_natCast]
      have hm2 : m < 2 ^ n := by omega
      have hm64 : m < 64 := by omega
      have hmn : ∀ b, m.testBit b = true → b < n := by
        intro b hb
        refine Classical.byContradiction (fun q => ?_)
        have p : 2 ^ n ≤ 2 ^ b := Nat.pow_le_pow_right (by omega) (by omega)
        rw [Nat.testBit_lt_two_pow (Nat.lt_of_lt_of_le hm2 p)] at hb
        cases hb
      obtain ⟨l, hle, hl2⟩ := bI_n (lmp (T 0 (8 + q)) (T 0 0 2))
      obtain ⟨p1, p2, p3, p4, p5, p6⟩ := psv hV.1 hq hn
      rw [hle]
      obtain ⟨s, hs⟩ : ∃ s, aT (T 0) q = s := ⟨_, rfl⟩
      obtain ⟨h, hh⟩ : ∃ h, aH (T 0) q = h := ⟨_, rfl⟩
      rw [hs] at p3 p5 ⊢
      rw [hh] at p4 p6 ⊢
      -- the calls before the loop
      obtain ⟨τ, e0, hM, hFN⟩ := x_asNow (L := L) hI.1
      have hI0 : IM T τ := IM_Q hI (FrM_N hFN)
      obtain ⟨τ1, e1, hF1, hQ1, hI1, hL1⟩ := m_lay (L := L) hI0 hV
      have hM1 : RM (vN τ1) (T 0) := by
        refine RM_cg ?_ hM
        funext k j
        unfold vN
        simp only [hF1 75 (by omega), hF1 76 (by omega), hF1 77 (by omega), hF1 97 (by omega), hF1 79 (by omega), hF1 80 (by omega), hF1 96 (by omega), hF1 89 (by omega), hF1 82 (by omega), hF1 83 (by omega), hF1 91 (by omega), hF1 92 (by omega), hF1 93 (by omega), hF1 94 (by omega), hF1 95 (by omega)]
      have hlN := fun Q => x_limpsNow (L := L) hV.1 hB hM1 hq hone Q
      rw [hle] at hlN
      have t75 : τ1 75 0 = (n : Int) := by rw [hI1.tw]; exact hn.symm
      obtain ⟨τ2, e2, hF2, hR2⟩ := x_fillM (L := L) (σ := τ1) (n := n) (q := q) (m := m) (l := l) t75 hn6 hm64 i
      have t82 : τ2 82 q = (h : Int) := by rw [hF2 82 (by omega)]; exact (hI1.1.pp q hq hone).ho.trans p6
      have t85 : τ2 85 q = (s : Int) := by rw [hF2 85 (by omega)]; exact (hI1.1.pp q hq hone).pl.trans p5
      have hL2 : LdF (T 0) τ2 := fun l a b q1 q2 q3 => by rw [hF2 98 (by omega)]; exact hL1 l a b q1 q2 q3
      -- all rows
      have hfr : fr m n = fr m 6 := by
        have := fr_n hmn (6 - n)
        rw [show n + (6 - n) = 6 by omega] at this
        exact this.symm
      rw [hfr] at hR2 e2
      have hhd := prm_hd m hm64
      have hlen := List.all_eq_true.mp (prm_len m hm64)
      have hck := prm_chk m hm64
      have hbs := bst_prm hV.1 (S := T 0) (l := (l : Int)) (h := h) (n := n) hn6 (f := fun r => sat 0 (rsm (T 0) l h s r)) 6 m s 0 [] (1000000, []) hm64 (pc6 m hm64).2 hmn (Int.le_refl 0) (Int.le_refl _) (fun r => by simp)
      rw [show (fun r : List Nat => ([] : List Nat) ++ r) = id from rfl, List.map_id] at hbs
      have hpc := (pc6 m hm64).2
      have hgg := fun i => gl_go hV.1 (S := T 0) (l := (l : Int)) (h := h) (n := n) hn6 6 m s i hm64 hpc
      have hfb := fF_b hV.1 (l : Int) h n 7 m s
      have hK : (fr m 6).length = pc m := by
        have := hlen (fr m 6) (List.mem_of_mem_head? hhd)
        simp at this
        exact this.1
      rw [hK] at e2
      obtain ⟨ls, hls⟩ : ∃ ls, prm 6 m = fr m 6 :: ls := by
        cases hp : prm 6 m with
        | nil => rw [hp] at hhd; cases hhd
        | cons x xs => rw [hp] at hhd; cases hhd; exact ⟨xs, rfl⟩
      rw [hls] at hck hlen hbs
      obtain ⟨τ3, e8, e9, e10, e3, hF3, hD3⟩ := x_rows (L := L) hV.1 (S := T 0) (l := l) (h := h) (a := s) (q := q) (m := m) (K := pc m) hl2 hq (by omega) (by omega) i hpc ls (fr m 6) τ2 (1000000, []) none none none hL2 t82 t85 hck (fun x hx => by
        have := hlen x hx
        simp at this
        exact this) hR2 (fun q => absurd q (Int.lt_irrefl _))
      rw [hbs] at e3 hD3
      have hFr : FrM σ τ3 := by
        refine (FrM_N hFN).tr (hQ1.tr ⟨fun o ho => ?_, fun j _ => ?_⟩)
        · rw [hF3 o (by omega) (by omega), hF2 o (by omega)]
        · rw [hF3 75 (by omega) (by omega), hF2 75 (by omega)]
      refine MO_q hI ⟨τ3, fun Q => ?_, hFr⟩
      simp only [e_188_0, e_188_10, e_188_29, brI, not_true_eq_false, true_implies, false_implies, implies_true, and_true, cTag, cTgt, cLen, true_and, Int.toNat_natCast, retI_I, retR_R, retV_N, retL_L, ne_eq, Int.reduceEq, not_false_eq_true, x_isThereM hV.1 hI.th, c, e75, hall, x_in, bI_0, cm, e0, e1, hlN, if_true, if_false, and_self]
      refine Eq.trans (e2 Q) ?_
      rw [e_188_86]
      refine Eq.trans (e3 Q) ?_
      unfold rnd
      generalize hFe : fF (T 0) l h n 7 m s = F at hD3 hgg hfb ⊢
      simp only [Int.zero_add] at hD3 ⊢
      by_cases cF : F < 1000000
      · have es : sat 0 F = F := by unfold sat; rw [if_neg (by omega)]; omega
        rw [es] at hD3 ⊢
        have ni : ¬ (1000000 : Int) ≤ F := by omega
        simp only [if_neg ni, List.nil_append] at hD3 ⊢
        rw [if_pos cF, e_188_231]
        simp only [brI]
        rw [if_pos (by omega), e_188_243]
        simp only [brI]
        by_cases ci : i = -1
        · rw [if_neg (fun q => q ci), if_pos ci, e_188_276]
        · rw [if_pos ci, if_neg ci, e_188_253]
          simp only [brI, not_true_eq_false, true_implies, false_implies, implies_true, and_true, cTag, cTgt, cLen, true_and, Int.toNat_natCast, retI_I, retR_R, retV_N, retL_L, ne_eq, Int.reduceEq, not_false_eq_true, x_in, bI_0, w32_id (x := (pc m : Int) - 1) (by omega) (by omega), e_188_274, e_188_276]
          by_cases c1 : 0 ≤ i ∧ i < (pc m : Int)
          · rw [if_neg (by omega), if_pos c1]
            have := hD3 cF i.toNat (by omega)
            rw [hgg i.toNat cF (by omega)] at this
            simp only [show (0 ≤ i ∧ i < 6) by omega, true_and, this]
          · rw [if_pos (by omega), if_neg c1]
      · have es : sat 0 F = 1000000 := by unfold sat; rw [if_pos (by omega)]
        rw [es]
        simp only [Int.le_refl, if_true]
        rw [if_neg cF, e_188_231]
        simp only [brI, not_true_eq_false, if_false]
        rw [e_188_276]
    · rw [if_neg cm]
      refine MO_n hI (fun Q => ?_)
      simp only [e_188_0, e_188_10, brI, not_true_eq_false, true_implies, false_implies, implies_true, and_true, cTag, cTgt, cLen, true_and, Int.toNat_natCast, retI_I, retR_R, retV_N, retL_L, ne_eq, Int.reduceEq, not_false_eq_true, x_isThereM hV.1 hI.th, c, e75, hall, x_in, bI_0, cm, if_true, if_false]
end MRound
