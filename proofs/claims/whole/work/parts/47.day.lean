/-! a DAY, step by step -/
section DayS
variable {B : Int} {S σ : Mem} {L : Nat}
theorem VS_stW (hS : VS B S) {p t : Nat} (hp : p < 4) (hm : ¬ mil S (S (8 + p) 2) t = 0) : VS (B + 18) (stW S p t) := by
  obtain ⟨a1, a2, a3, a4, a5, a6, a7, a8, a9, a10, a11, a12⟩ := hS.p hp
  have ha := VP_at hS hp
  have hm9 := mil_b hS (S (8 + p) 2) t
  have ht : t < 6 := by
    unfold mil at hm; split at hm
    · omega
    · exact absurd rfl hm
  obtain ⟨a, hae⟩ : ∃ a : Nat, S (8 + p) 2 = (a : Int) := ⟨(S (8 + p) 2).toNat, by omega⟩
  have ha6 : a < 6 := by omega
  have htn : (t : Int) < S 0 0 := by
    have q := (hS.mi (a := a) (b := t) ha6 ht).2.2
    rw [hae] at hm
    unfold mil at hm; rw [if_pos (by omega)] at hm
    simp only [Int.toNat_natCast] at hm
    omega
  rw [hae] at hm9
  have hf1 : (if S (8 + p) 6 = 0 then 2 else 0) < 3 := by split <;> omega
  have hf2 : (if S (8 + p) 7 = 0 then 2 else 1) < 3 := by split <;> omega
  unfold stW
  rw [hae, Int.toNat_natCast]
  have hS1 := VS_trd hS ha6 ht hf1 (mil S a t) hm9
  have hS2 := (VS_trd hS1 ha6 ht hf2 (mil S a t) hm9).mono (show B + 9 + 9 ≤ B + 18 by omega)
  refine VS_pw hS2 ?_
  rw [trd_lo (by omega), trd_lo (by omega)]
  refine ⟨by simpa [fW] using a1, by simpa [fW] using a2, ?_, by simpa [fW] using a4, by simpa [fW] using a5, by simpa [fW] using a6, by simpa [fW] using a7, by simpa [fW] using a8, ?_, ?_, ?_, ?_, ?_⟩
  · simp only [fW, if_true]; omega
  · show 0 ≤ (if S (8 + p) 6 = 0 then S (8 + p) 8 else S (8 + p) 8 + mil S a t) ∧ (if S (8 + p) 6 = 0 then S (8 + p) 8 else S (8 + p) 8 + mil S a t) ≤ B + 18
    split <;> omega
  · show 0 ≤ (if S (8 + p) 7 = 0 then S (8 + p) 9 else S (8 + p) 9 + mil S a t) ∧ (if S (8 + p) 7 = 0 then S (8 + p) 9 else S (8 + p) 9 + mil S a t) ≤ B + 18
    split <;> omega
  · show 0 ≤ S (8 + p) 10 + mil S a t ∧ S (8 + p) 10 + mil S a t ≤ B + 18
    omega
  · show S (8 + p) 6 = 0 → (if S (8 + p) 6 = 0 then S (8 + p) 8 else S (8 + p) 8 + mil S a t) = 0
    intro c; rw [if_pos c]; exact a12.1 c
  · show S (8 + p) 7 = 0 → (if S (8 + p) 7 = 0 then S (8 + p) 9 else S (8 + p) 9 + mil S a t) = 0
    intro c; rw [if_pos c]; exact a12.2 c
theorem VS_stB (hS : VS B S) {p : Nat} (hp : p < 4) (hw : whyB S p = 0) : VS B (stB S p) := by
  obtain ⟨a1, a2, a3, a4, a5, a6, a7, a8, a9, a10, a11, a12⟩ := hS.p hp
  have ha := VP_at hS hp
  have hb : ∀ s, 0 ≤ szo (S (8 + p)) s ∧ szo (S (8 + p)) s < 5 := by
    intro s; unfold szo; split <;> omega
  unfold whyB at hw
  unfold stB
  have hpr : 0 ≤ g1 S 5 6 (S (8 + p) 2) ∧ g1 S 5 6 (S (8 + p) 2) ≤ 20 := by
    unfold g1; rw [if_pos (by omega)]; exact hS.2.2.2.2.2.2.2.2.1 _ (by omega)
  generalize hs : g1 S 4 6 (S (8 + p) 2) = s at hw ⊢
  have hq := hb s
  have hst : stk S (S (8 + p) 2) (szo (S (8 + p)) s) ≤ 9 := by
    unfold stk; rw [if_pos (by omega)]; exact (hS.2.2.2.2.2.2.2.2.2.1 _ (by omega)).2
  by_cases c1 : s = 0 ∨ stk S (S (8 + p) 2) (szo (S (8 + p)) s) ≤ 0
  · rw [if_pos c1] at hw; omega
  rw [if_neg c1] at hw
  by_cases c2 : ¬ wrs (S (8 + p)) s = 0
  · rw [if_pos c2] at hw; omega
  rw [if_neg c2] at hw
  by_cases c3 : S (8 + p) 5 < g1 S 5 6 (S (8 + p) 2)
  · rw [if_pos c3] at hw; omega
  have hS1 := VS_up6 hS (5 * (S (8 + p) 2).toNat + (szo (S (8 + p)) s).toNat) (stk S (S (8 + p) 2) (szo (S (8 + p)) s) - 1) (by omega)
  refine VS_pw hS1 ?_
  rw [show up S 6 (5 * (S (8 + p) 2).toNat + (szo (S (8 + p)) s).toNat) (stk S (S (8 + p) 2) (szo (S (8 + p)) s) - 1) 0 0 = S 0 0 by simp [up_rd]]
  have c2' : wrs (S (8 + p)) s = 0 := by simpa using c2
  unfold wrs at c2'
  unfold fV fB
  by_cases cs : s = 1
  · rw [if_pos cs] at c2'
    simp [cs]
    have := a12.1 c2'
    exact ⟨a1, a2, a3, a4, a5, by omega, a8, a9, a10, a11, a12.2⟩
  · rw [if_neg cs] at c2'
    simp [cs]
    have := a12.2 c2'
    exact ⟨a1, a2, a3, a4, a5, by omega, a7, a9, a10, a11, a12.1⟩
theorem VS_stp (hS : VS B S) (hB : 0 ≤ B) {p : Nat} (hp : p < 4) {d : Int} (hd : 0 ≤ d) (hw : why S p d = 0) : VS (B + 18) (stp S p d) := by
  unfold why at hw
  have c1 : ¬ S (8 + p) 0 = 0 := by intro c; rw [if_pos c] at hw; omega
  rw [if_neg c1] at hw
  unfold stp
  by_cases c2 : d < 6
  · rw [if_neg (by omega), if_pos c2] at hw
    obtain ⟨t, rfl⟩ : ∃ t : Nat, d = (t : Int) := ⟨d.toNat, by omega⟩
    have hm : ¬ mil S (S (8 + p) 2) t = 0 := by
      intro c; unfold whyW at hw; rw [if_pos c] at hw; omega
    rw [if_pos c2, Int.toNat_natCast]
    exact VS_stW hS hp hm
  · rw [if_neg c2]
    by_cases c3 : d = 6
    · rw [if_pos c3]
      rw [if_neg (by omega), if_neg c2] at hw
      exact (VS_stB hS hp hw).mono (by omega)
    · rw [if_neg c3]
      obtain ⟨a1, a2, a3, a4, a5, a6, a7, a8, a9, a10, a11, a12⟩ := hS.p hp
      refine VS_pw (hS.mono (by omega)) ?_
      unfold fV fTh
      simp
      exact ⟨a1, a2, a3, a4, a5, a6, by omega, by omega⟩
/-- the valley behind i steps -/
def dst (wh : Nat → Nat) (dd : Nat → Int) (S : Mem) : Nat → Mem
  | 0 => S
  | i + 1 => stp (dst wh dd S i) (wh i) (dd i)
/-- the first step that can not be, from step i on (m steps more), and why -/
def fbd (wh : Nat → Nat) (dd : Nat → Int) (S : Mem) : Nat → Nat → Int
  | 0, _ => -6
  | m + 1, i => if why (dst wh dd S i) (wh i) (dd i) = 0 then fbd wh dd S m (i + 1) else (i : Int)
def fwy (wh : Nat → Nat) (dd : Nat → Int) (S : Mem) : Nat → Nat → Int
  | 0, _ => 0
  | m + 1, i => if why (dst wh dd S i) (wh i) (dd i) = 0 then fwy wh dd S m (i + 1) else why (dst wh dd S i) (wh i) (dd i)
abbrev ouC (wh : Nat → Nat) (dd : Nat → Int) (S : Mem) (l : Int) (i : Nat) : Prop := dd i < 6 ∧ (l < dst wh dd S (i + 1) (8 + wh i) 8 ∨ l < dst wh dd S (i + 1) (8 + wh i) 9)
/-- where shoes gave out within the first i steps: the step, who, the side -/
def ou (wh : Nat → Nat) (dd : Nat → Int) (S : Mem) (l : Int) : Nat → Int × Int × Int
  | 0 => (-6, -6, -6)
  | i + 1 => if (ou wh dd S l i).1 = -6 ∧ ouC wh dd S l i then ((i : Int), (wh i : Int), if l < dst wh dd S (i + 1) (8 + wh i) 8 then 0 else 1) else ou wh dd S l i
theorem ou_or (wh : Nat → Nat) (dd : Nat → Int) (S : Mem) (l : Int) (i : Nat) : (ou wh dd S l i).1 = -6 ∨ 0 ≤ (ou wh dd S l i).1 := by
  induction i with
  | zero => exact Or.inl rfl
  | succ i ih =>
    simp only [ou]
    split
    · right; show (0 : Int) ≤ (i : Int); omega
    · exact ih
theorem fbd_or (wh : Nat → Nat) (dd : Nat → Int) (S : Mem) : ∀ m i : Nat, fbd wh dd S m i = -6 ∨ 0 ≤ fbd wh dd S m i := by
  intro m
  induction m with
  | zero => intro i; exact Or.inl rfl
  | succ m ih =>
    intro i
    simp only [fbd]
    split
    · exact ih _
    · omega
theorem dst_VS {wh : Nat → Nat} {dd : Nat → Int} (hS : VS B S) (hB : 0 ≤ B) (hw : ∀ i, wh i < 4) (hd : ∀ i, 0 ≤ dd i) : ∀ i : Nat, (∀ j, j < i → why (dst wh dd S j) (wh j) (dd j) = 0) → VS (B + 18 * i) (dst wh dd S i) := by
  intro i
  induction i with
  | zero => intro _; exact hS.mono (by omega)
  | succ i ih =>
    intro h
    have := VS_stp (ih (fun j hj => h j (by omega))) (by omega) (hw i) (hd i) (h i (by omega))
    exact this.mono (by omega)
theorem fbd_all {wh : Nat → Nat} {dd : Nat → Int} : ∀ m i : Nat, fbd wh dd S m i = -6 → ∀ j, i ≤ j → j < i + m → why (dst wh dd S j) (wh j) (dd j) = 0 := by
  intro m
  induction m with
  | zero => intro i _ j h1 h2; omega
  | succ m ih =>
    intro i h j h1 h2
    simp only [fbd] at h
    split at h
    · next c =>
      by_cases e : j = i
      · rw [e]; exact c
      · exact ih (i + 1) h j (by omega) (by omega)
    · omega
/-! guesses -/
def gs (g : Nat) (b : Int) : Nat := if 0 ≤ b ∧ b ≤ 2 then g / 4 ^ b.toNat % 4 else 0
theorem gs_4 (g : Nat) (b : Int) : gs g b < 4 := by unfold gs; split <;> omega
theorem x_guessed {g : Nat} (hg : g < 64) (k M : Int) (hk : 0 ≤ k ∧ k ≤ 60) (hM : 0 ≤ M ∧ M ≤ 60) (d : Option PV) (Q : PQ) : X L 139 0 [some (xI k), some (xI M), some (xI (g : Int)), d] [] σ Q = Q (some (xI (gs g (M - 1 - k) : Int))) σ := by
  simp only [e_139_0, e_139_25, e_139_26, brI, not_true_eq_false, true_implies, false_implies, implies_true, and_true, cTag, cTgt, cLen, true_and, Int.toNat_natCast, retI_I, retR_R, retV_N, retL_L, ne_eq, Int.reduceEq, not_false_eq_true, x_isWithin, bI_0, w32_id (x := M - 1) (by omega) (by omega), w32_id (x := M - 1 - k) (by omega) (by omega)]
  unfold gs
  by_cases c : 0 ≤ M - 1 - k ∧ M - 1 - k ≤ 2
  · rw [if_neg (fun q => q c), if_pos c]
    obtain ⟨b, hb⟩ : ∃ b : Nat, M - 1 - k = (b : Int) := ⟨(M - 1 - k).toNat, by omega⟩
    rw [hb, Int.toNat_natCast]
    have e : and32 (shr32 (g : Int) (w32 (2 * (b : Int)))) 3 = ((g / 4 ^ b % 4 : Nat) : Int) := by
      rw [w32_id (by omega) (by omega), show (2 * (b : Int)) = ((2 * b : Nat) : Int) by omega, shr32_n (by omega) (by omega)]
      have h := shr_le g (2 * b)
      have : and32 ((g >>> (2 * b) : Nat) : Int) 3 = ((g >>> (2 * b) &&& 3 : Nat) : Int) := and32_n (b := 3) (by omega) (by omega)
      rw [this, Nat.shiftRight_eq_div_pow, Nat.pow_mul]
      congr 1
      exact Nat.and_two_pow_sub_one_eq_mod _ 2
    rw [e]
  · rw [if_pos c, if_neg c]; rfl
/-- who does step i, if the guess is g and there are M marks -/
def whg (s : Nat → Int) (g : Nat) (M : Int) (i : Nat) : Nat := if s (2 * i) = 63 then gs g (M - 1 - cq s (2 * i)) else if 65 ≤ s (2 * i) ∧ s (2 * i) ≤ 68 then (s (2 * i) - 65).toNat else 0
theorem whg_4 (s : Nat → Int) (g : Nat) (M : Int) (i : Nat) : whg s g M i < 4 := by
  unfold whg
  split
  · exact gs_4 _ _
  · split <;> omega
theorem x_look {p : Nat} (hp : p < 4) (st l : Int) (Q : PQ) : X L 4 0 [some (xR 20), some (xI st), some (xI (p : Int)), some (xI l), none] [] σ Q = Q none (if l < σ (21 + 11 + p) 8 ∨ l < σ (21 + 11 + p) 9 then up (up (up σ 20 3 st) 20 4 (p : Int)) 20 5 (if l < σ (21 + 11 + p) 8 then 0 else 1) else σ) := by
  have n : ∀ x y j, up (up σ 20 3 x) 20 4 y (21 + 11 + p) j = σ (21 + 11 + p) j := by
    intro x y j; simp only [up_rd]; rw [if_neg (by omega), if_neg (by omega)]
  simp only [e_4_0, e_4_28, e_4_52, e_4_53, e_4_56, brI, not_true_eq_false, true_implies, false_implies, implies_true, and_true, cTag, cTgt, cLen, true_and, Int.toNat_natCast, retI_I, retR_R, retV_N, retL_L, ne_eq, Int.reduceEq, not_false_eq_true, x_personAt iV21 hp, gt_p iV21 hp, n]
  by_cases c1 : l < σ (21 + 11 + p) 8
  · simp (disch := omega) only [c1, brI, not_true_eq_false, true_implies, false_implies, implies_true, and_true, cTag, cTgt, cLen, true_and, Int.toNat_natCast, retI_I, retR_R, retV_N, retL_L, ne_eq, Int.reduceEq, not_false_eq_true, le_t, le_f, lt_t, lt_f, eq_t, eq_f, w32_id, inb, if_true, if_false, not_true_eq_false, not_false_eq_true, and_true, true_and, and_false, false_and, or_true, true_or, or_false, false_or, Int.add_zero, Int.zero_add, and_self, or_self]
  · by_cases c2 : l < σ (21 + 11 + p) 9
    · simp (disch := omega) only [c1, c2, brI, not_true_eq_false, true_implies, false_implies, implies_true, and_true, cTag, cTgt, cLen, true_and, Int.toNat_natCast, retI_I, retR_R, retV_N, retL_L, ne_eq, Int.reduceEq, not_false_eq_true, le_t, le_f, lt_t, lt_f, eq_t, eq_f, w32_id, inb, if_true, if_false, not_true_eq_false, not_false_eq_true, and_true, true_and, and_false, false_and, or_true, true_or, or_false, false_or, Int.add_zero, Int.zero_add, and_self, or_self]
    · simp (disch := omega) only [c1, c2, brI, not_true_eq_false, true_implies, false_implies, implies_true, and_true, cTag, cTgt, cLen, true_and, Int.toNat_natCast, retI_I, retR_R, retV_N, retL_L, ne_eq, Int.reduceEq, not_false_eq_true, le_t, le_f, lt_t, lt_f, eq_t, eq_f, w32_id, inb, if_true, if_false, not_true_eq_false, not_false_eq_true, and_true, true_and, and_false, false_and, or_true, true_or, or_false, false_or, Int.add_zero, Int.zero_add, and_self, or_self]
end DayS
