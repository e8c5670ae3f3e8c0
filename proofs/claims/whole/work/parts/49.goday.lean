/-! the Model goes through a DAY -/
section GoDay
variable {B : Int} {S σ τ : Mem} {L : Nat}
def FrG (σ τ : Mem) : Prop := (∀ o, o ≠ 75 → (o < 91 ∨ 97 < o) → τ o = σ o) ∧ (∀ j, j < 28 ∨ 31 < j → τ 75 j = σ 75 j)
theorem FrG.tr {a b c : Mem} (h1 : FrG a b) (h2 : FrG b c) : FrG a c := ⟨fun o h h' => (h2.1 o h h').trans (h1.1 o h h'), fun j h => (h2.2 j h).trans (h1.2 j h)⟩
theorem FrG.rf {a : Mem} : FrG a a := ⟨fun _ _ _ => rfl, fun _ _ => rfl⟩
theorem FrG_N (h : FrN σ τ) : FrG σ τ := ⟨fun o _ h2 => h o h2, fun j _ => by rw [h 75 (by omega)]⟩
theorem FrG_u {k : Nat} {x : Int} (hk : 28 ≤ k ∧ k ≤ 31) : FrG σ (up σ 75 k x) := by
  refine ⟨fun o h _ => ?_, fun j h => ?_⟩
  · funext j; simp only [up_rd]; rw [if_neg (by omega)]
  · simp only [up_rd]; rw [if_neg (by omega)]
theorem FrM_G (h : FrG σ τ) : FrM σ τ := ⟨fun o ho => h.1 o (by omega) (by omega), fun j hj => h.2 j (by omega)⟩
theorem vN_u {k : Nat} {x : Int} (hk : 28 ≤ k) : vN (up σ 75 k x) = vN σ := by
  funext a j
  unfold vN
  split
  · split <;> (simp only [up_rd]; rw [if_neg (by omega)])
  all_goals (simp only [up_rd]; rw [if_neg (by omega)])
theorem why_nn (hS : VS B S) (p : Nat) (d : Int) : 0 ≤ why S p d := by
  unfold why whyW whyB
  (repeat' split) <;> omega
def byv (M : Int) (k : Int) : Int := ((4 ^ (M - 1 - k).toNat : Nat) : Int)
theorem byv_q {M k : Int} (hk : 0 ≤ k ∧ k < M) (hM : M ≤ 3) : (if byv M k ≤ 1 then byv M k else Int.tdiv (byv M k) 4) = byv M (k + 1) ∧ 1 ≤ byv M k ∧ byv M k ≤ 16 ∧ ∀ g : Nat, Int.tmod (Int.tdiv (g : Int) (byv M k)) 4 = (gs g (M - 1 - k) : Int) := by
  have hc : (k = 0 ∧ M = 1) ∨ (k = 0 ∧ M = 2) ∨ (k = 1 ∧ M = 2) ∨ (k = 0 ∧ M = 3) ∨ (k = 1 ∧ M = 3) ∨ (k = 2 ∧ M = 3) := by omega
  rcases hc with ⟨rfl, rfl⟩ | ⟨rfl, rfl⟩ | ⟨rfl, rfl⟩ | ⟨rfl, rfl⟩ | ⟨rfl, rfl⟩ | ⟨rfl, rfl⟩ <;> refine ⟨by decide, by decide, by decide, fun g => ?_⟩
  · show Int.tmod (Int.tdiv (g : Int) 1) 4 = ((g / 1 % 4 : Nat) : Int)
    rw [Int.tdiv_eq_ediv_of_nonneg (by omega), Int.tmod_eq_emod_of_nonneg (by omega)]; omega
  · show Int.tmod (Int.tdiv (g : Int) 4) 4 = ((g / 4 % 4 : Nat) : Int)
    rw [Int.tdiv_eq_ediv_of_nonneg (by omega), Int.tmod_eq_emod_of_nonneg (by omega)]; omega
  · show Int.tmod (Int.tdiv (g : Int) 1) 4 = ((g / 1 % 4 : Nat) : Int)
    rw [Int.tdiv_eq_ediv_of_nonneg (by omega), Int.tmod_eq_emod_of_nonneg (by omega)]; omega
  · show Int.tmod (Int.tdiv (g : Int) 16) 4 = ((g / 16 % 4 : Nat) : Int)
    rw [Int.tdiv_eq_ediv_of_nonneg (by omega), Int.tmod_eq_emod_of_nonneg (by omega)]; omega
  · show Int.tmod (Int.tdiv (g : Int) 4) 4 = ((g / 4 % 4 : Nat) : Int)
    rw [Int.tdiv_eq_ediv_of_nonneg (by omega), Int.tmod_eq_emod_of_nonneg (by omega)]; omega
  · show Int.tmod (Int.tdiv (g : Int) 1) 4 = ((g / 1 % 4 : Nat) : Int)
    rw [Int.tdiv_eq_ediv_of_nonneg (by omega), Int.tmod_eq_emod_of_nonneg (by omega)]; omega
theorem cq_lt {s : Nat → Int} {a b : Nat} (h : a < b) (hq : s a = 63) : cq s a < cq s b := by
  induction b with
  | zero => omega
  | succ b ih =>
    simp only [cq]
    by_cases e : a = b
    · subst e; rw [if_pos hq]; omega
    · have := ih (by omega)
      split <;> omega
abbrev gLs (g l k i : Int) (P wt go t : Int) (d9 d10 : Option PV) : LSt := [some (xR 75), some (xI g), some (xI l), some (xI k), some (xI (2 * i)), some (xI P), some (xI wt), some (xI go), some (xI t), d9, d10]
/-- from who is chosen to the reason -/
theorem x_go119 {w : Int} {s : Nat → Int} {h : Nat} (hP : PadOk w s h) {i P : Nat} (hi : i < h) (hp : P < 4) (hV : VS B S) (hB : B ≤ 900000) (hM : RM (vN σ) S) (h2 : ∀ j, j < 60 → σ 90 j = s j) (g l k kk : Int) (d6 d7 d8 d9 d10 : Option PV) (Q : PQ) :
    X L 167 119 [some (xR 75), some (xI g), some (xI l), some (xI k), some (xI (2 * (i : Int))), some (xI (P : Int)), d6, d7, d8, d9, d10] [xI kk] σ Q = X L 167 215 (gLs g l kk i P (s (2 * i + 1)) (bI (ded s i < 6)) (if ded s i < 6 then ded s i else 0) d9 d10) [xI (why S P (ded s i)), xR 75] σ Q := by
  have h60 := hP.2.1
  obtain ⟨hd1, hd2, hd3, hd4⟩ := hP.dk hi
  have e1 : σ 90 (2 * i + 1) = s (2 * i + 1) := h2 _ (by omega)
  have hs1 := hP.2.2.1 (2 * i + 1) (by omega)
  have h9 : σ 75 9 = thb S := hM.th
  have ht : thr S (P : Int) = S (8 + P) 0 := thr_n hp
  have h01 := (hV.p hp).1
  rw [e_167_119]
  simp only [brI, not_true_eq_false, true_implies, false_implies, implies_true, and_true, cTag, cTgt, cLen, true_and, Int.toNat_natCast, retI_I, retR_R, retV_N, retL_L, ne_eq, Int.reduceEq, not_false_eq_true, w32_id (x := 2 * (i : Int) + 1) (by omega) (by omega), show (2 * (i : Int) + 1).toNat = 2 * i + 1 by omega, e1, show (0 ≤ 2 * (i : Int) + 1 ∧ 2 * (i : Int) + 1 < 60) by omega]
  by_cases cw : ded s i < 6
  · obtain ⟨n43, n45, hde⟩ := hd4 cw
    rw [if_neg n43, if_neg n45, e_167_150]
    simp only [brI, not_true_eq_false, true_implies, false_implies, implies_true, and_true, cTag, cTgt, cLen, true_and, Int.toNat_natCast, retI_I, retR_R, retV_N, retL_L, ne_eq, Int.reduceEq, not_false_eq_true, e_167_166, x_isThereM hV h9, ht, ← hde, w32_id (x := ded s i) (by omega) (by omega), Int.reduceEq, if_false]
    rw [if_pos cw, bI_t cw]
    by_cases c0 : S (8 + P) 0 = 0
    · rw [if_neg (fun q => q c0)]
      have : why S P (ded s i) = 1 := by unfold why; rw [if_pos c0]
      rw [this]
    · rw [if_pos c0, e_167_182]
      have hw : why S P (ded s i) = whyW S P (ded s i) := by unfold why; rw [if_neg c0, if_neg (by omega), if_pos cw]
      obtain ⟨t, hte⟩ : ∃ t : Nat, ded s i = (t : Int) := ⟨(ded s i).toNat, by omega⟩
      have hx := x_whyNotWalk (L := L) (t := t) hV (by omega) hM hp (by omega) (by omega)
      rw [hw, hte]
      simp only [brI, not_true_eq_false, true_implies, false_implies, implies_true, and_true, cTag, cTgt, cLen, true_and, Int.toNat_natCast, retI_I, retR_R, retV_N, retL_L, ne_eq, Int.reduceEq, not_false_eq_true, Int.reduceEq, if_false, hx]
  · have ded' : s (2 * i + 1) = 43 ∨ s (2 * i + 1) = 45 := by
      have hk := hP.2.2.2 (2 * i + 1) (by omega)
      have hw := hP.1
      have hk : okD w s (2 * i + 1) := by omega
      unfold ded at cw
      (repeat' split at cw) <;> omega
    rw [if_neg cw, bI_f cw]
    have go : X L 167 150 [some (xR 75), some (xI g), some (xI l), some (xI kk), some (xI (2 * (i : Int))), some (xI (P : Int)), some (xI (s (2 * i + 1))), d7, d8, d9, d10] [xI 0] σ Q = X L 167 215 (gLs g l kk i P (s (2 * i + 1)) 0 0 d9 d10) [xI (why S P (ded s i)), xR 75] σ Q := by
      rw [e_167_150]
      simp only [brI, not_true_eq_false, true_implies, false_implies, implies_true, and_true, cTag, cTgt, cLen, true_and, Int.toNat_natCast, retI_I, retR_R, retV_N, retL_L, ne_eq, Int.reduceEq, not_false_eq_true, e_167_165, e_167_166, x_isThereM hV h9, ht, if_true]
      by_cases c0 : S (8 + P) 0 = 0
      · rw [if_neg (fun q => q c0)]
        have : why S P (ded s i) = 1 := by unfold why; rw [if_pos c0]
        rw [this]
      · rw [if_pos c0]
        simp only [e_167_182, e_167_198, e_167_214, brI, not_true_eq_false, true_implies, false_implies, implies_true, and_true, cTag, cTgt, cLen, true_and, Int.toNat_natCast, retI_I, retR_R, retV_N, retL_L, ne_eq, Int.reduceEq, not_false_eq_true, if_true, x_whyNotBuy hV hM hp (show S (8 + P) 0 = 1 by omega)]
        by_cases c43 : s (2 * i + 1) = 43
        · have hde : ded s i = 6 := by unfold ded; rw [if_pos c43]
          have hw : why S P (ded s i) = whyB S P := by unfold why; rw [if_neg c0, if_neg (by omega), if_neg cw]
          rw [if_neg (fun q => q c43), hw]
        · have hde : ded s i = 7 := by unfold ded; rw [if_neg c43, if_pos (by omega)]
          have hw : why S P (ded s i) = 0 := by unfold why; rw [if_neg c0, if_pos hde]
          rw [if_pos c43, hw]
    by_cases c43 : s (2 * i + 1) = 43
    · rw [if_pos c43, e_167_149]; exact go
    · rw [if_neg c43, if_pos (by omega), e_167_149]; exact go
theorem stp_0 {p : Nat} {d : Int} : stp S p d (8 + p) 0 = S (8 + p) 0 := by
  unfold stp
  split
  · simp [stW, pw, fW]
  · split
    · simp [stB, pw, fB]
    · simp [pw, fTh]
/-- from a step that can be to the next one -/
theorem x_go215 {s : Nat → Int} {wh : Nat → Nat} {S0 : Mem} {i : Nat} (hi : i < 30) (hp : wh i < 4) (hS : dst wh (ded s) S0 i = S) (hd : 0 ≤ ded s i ∧ ded s i ≤ 7) (h43 : (s (2 * i + 1) = 43) ↔ ded s i = 6) (hV : VS B S) (hB0 : 0 ≤ B) (hB : B ≤ 900000) (hM : RM (vN σ) S) (hw : why S (wh i) (ded s i) = 0) (g l k : Int) (d9 d10 : Option PV)
    (o3 : σ 75 29 = (ou wh (ded s) S0 l i).1) (o4 : σ 75 30 = (ou wh (ded s) S0 l i).2.1) (o5 : σ 75 31 = (ou wh (ded s) S0 l i).2.2) :
    ∃ (τ : Mem) (e9 e10 : Option PV), (∀ Q : PQ, X L 167 215 (gLs g l k i (wh i) (s (2 * i + 1)) (bI (ded s i < 6)) (if ded s i < 6 then ded s i else 0) d9 d10) [xI 0, xR 75] σ Q = X L 167 379 (gLs g l k i (wh i) (s (2 * i + 1)) (bI (ded s i < 6)) (if ded s i < 6 then ded s i else 0) e9 e10) [] τ Q) ∧ FrG σ τ ∧ RM (vN τ) (dst wh (ded s) S0 (i + 1)) ∧ τ 75 29 = (ou wh (ded s) S0 l (i + 1)).1 ∧ τ 75 30 = (ou wh (ded s) S0 l (i + 1)).2.1 ∧ τ 75 31 = (ou wh (ded s) S0 l (i + 1)).2.2 := by
  have hn : dst wh (ded s) S0 (i + 1) = stp S (wh i) (ded s i) := by rw [← hS]; rfl
  obtain ⟨σ1, hσ1⟩ : ∃ σ1, up σ 75 28 0 = σ1 := ⟨_, rfl⟩
  have F1 : FrG σ σ1 := by rw [← hσ1]; exact FrG_u (by omega)
  have hM1 : RM (vN σ1) S := by rw [← hσ1, vN_u (by omega)]; exact hM
  have z1 : ∀ j, j ≠ 28 → σ1 75 j = σ 75 j := by intro j hj; rw [← hσ1]; simp only [up_rd]; rw [if_neg (by omega)]
  have r1 : σ1 75 28 = 0 := by rw [← hσ1]; simp [up_rd]
  have c0 : S (8 + wh i) 0 = 1 := by
    rcases (hV.p hp).1 with e | e
    · unfold why at hw; rw [if_pos e] at hw; omega
    · exact e
  have st : ∀ Q : PQ, X L 167 215 (gLs g l k i (wh i) (s (2 * i + 1)) (bI (ded s i < 6)) (if ded s i < 6 then ded s i else 0) d9 d10) [xI 0, xR 75] σ Q = X L 167 230 (gLs g l k i (wh i) (s (2 * i + 1)) (bI (ded s i < 6)) (if ded s i < 6 then ded s i else 0) d9 d10) [] σ1 Q := by
    intro Q
    rw [e_167_215]
    simp only [brI, not_true_eq_false, true_implies, false_implies, implies_true, and_true, cTag, cTgt, cLen, true_and, Int.toNat_natCast, retI_I, retR_R, retV_N, retL_L, ne_eq, Int.reduceEq, not_false_eq_true, hσ1, r1, Int.le_refl, if_true]
  simp only [st]
  unfold why at hw
  rw [if_neg (by omega)] at hw
  by_cases cw : ded s i < 6
  · rw [if_neg (by omega), if_pos cw] at hw
    obtain ⟨t, hte⟩ : ∃ t : Nat, ded s i = (t : Int) := ⟨(ded s i).toNat, by omega⟩
    have hm : ¬ mil S (S (8 + wh i) 2) t = 0 := by
      intro c; unfold whyW at hw; rw [hte, if_pos c] at hw; omega
    obtain ⟨τ1, e1, hMt, hF1⟩ := x_walkM (L := L) hV hB hM1 hp c0 hm
    have hn' : dst wh (ded s) S0 (i + 1) = stW S (wh i) t := by rw [hn]; unfold stp; rw [if_pos cw, hte, Int.toNat_natCast]
    rw [← hn'] at hMt
    have h1 : dst wh (ded s) S0 (i + 1) (8 + wh i) 0 = 1 := by rw [hn, stp_0]; exact c0
    have hRP := hMt.pp _ hp h1
    have y8 : τ1 94 (2 * wh i) = dst wh (ded s) S0 (i + 1) (8 + wh i) 8 := hRP.wl
    have y9 : τ1 94 (2 * wh i + 1) = dst wh (ded s) S0 (i + 1) (8 + wh i) 9 := hRP.wr
    have z2 : ∀ j, j ≠ 28 → τ1 75 j = σ 75 j := by intro j hj; rw [hF1 75 (by omega), z1 j hj]
    have FG1 : FrG σ τ1 := F1.tr (FrG_N hF1)
    have hor := ou_or wh (ded s) S0 l i
    have e230 : ∀ Q : PQ, X L 167 230 (gLs g l k i (wh i) (s (2 * i + 1)) (bI (ded s i < 6)) (if ded s i < 6 then ded s i else 0) d9 d10) [] σ1 Q = X L 167 283 [some (xR 75), some (xI g), some (xI l), some (xI k), some (xI (2 * (i : Int))), some (xI (wh i : Int)), some (xI (s (2 * i + 1))), some (xI (bI (ded s i < 6))), some (xI (if ded s i < 6 then ded s i else 0)), some (xI (bI (l < dst wh (ded s) S0 (i + 1) (8 + wh i) 8))), d10] [xI (bI (l < dst wh (ded s) S0 (i + 1) (8 + wh i) 9))] τ1 Q := by
      intro Q
      rw [bI_t cw, if_pos cw, e_167_230]
      rw [hte]
      simp only [brI, not_true_eq_false, true_implies, false_implies, implies_true, and_true, cTag, cTgt, cLen, true_and, Int.toNat_natCast, retI_I, retR_R, retV_N, retL_L, ne_eq, Int.reduceEq, not_false_eq_true, Int.reduceEq, if_false, e1]
      simp (disch := omega) only [w32_id, inb, true_and, Int.toNat_add, Int.toNat_mul, Int.toNat_natCast, Int.reduceToNat, y8]
      have e261 : ∀ b : Int, X L 167 261 [some (xR 75), some (xI g), some (xI l), some (xI k), some (xI (2 * (i : Int))), some (xI (wh i : Int)), some (xI (s (2 * i + 1))), some (xI 1), some (xI (t : Int)), d9, d10] [xI b] τ1 Q = X L 167 283 [some (xR 75), some (xI g), some (xI l), some (xI k), some (xI (2 * (i : Int))), some (xI (wh i : Int)), some (xI (s (2 * i + 1))), some (xI 1), some (xI (t : Int)), some (xI b), d10] [xI (bI (l < dst wh (ded s) S0 (i + 1) (8 + wh i) 9))] τ1 Q := by
        intro b
        rw [e_167_261]
        simp only [brI, not_true_eq_false, true_implies, false_implies, implies_true, and_true, cTag, cTgt, cLen, true_and, Int.toNat_natCast, retI_I, retR_R, retV_N, retL_L, ne_eq, Int.reduceEq, not_false_eq_true]
        simp (disch := omega) only [w32_id, inb, true_and, Int.toNat_add, Int.toNat_mul, Int.toNat_natCast, Int.reduceToNat, y9]
        by_cases c9 : dst wh (ded s) S0 (i + 1) (8 + wh i) 9 ≤ l
        · rw [if_pos c9, e_167_282, bI_f (by omega)]
        · rw [if_neg c9, bI_t (by omega)]
      by_cases c8 : dst wh (ded s) S0 (i + 1) (8 + wh i) 8 ≤ l
      · rw [if_pos c8, e_167_260, e261, bI_f (show ¬ l < dst wh (ded s) S0 (i + 1) (8 + wh i) 8 by omega)]
      · rw [if_neg c8, e261, bI_t (show l < dst wh (ded s) S0 (i + 1) (8 + wh i) 8 by omega)]
    simp only [e230]
    by_cases co : (ou wh (ded s) S0 l i).1 = -6
    · have r29 : ¬ 0 ≤ τ1 75 29 := by rw [z2 29 (by omega), o3, co]; omega
      by_cases cl : l < dst wh (ded s) S0 (i + 1) (8 + wh i) 8 ∨ l < dst wh (ded s) S0 (i + 1) (8 + wh i) 9
      · have hou : ou wh (ded s) S0 l (i + 1) = ((i : Int), (wh i : Int), if l < dst wh (ded s) S0 (i + 1) (8 + wh i) 8 then 0 else 1) := if_pos ⟨co, cw, cl⟩
        rw [hou]
        have td : Int.tdiv (2 * (i : Int)) 2 = (i : Int) := by rw [Int.tdiv_eq_ediv_of_nonneg (by omega)]; omega
        have e302 : ∀ Q : PQ, X L 167 302 [some (xR 75), some (xI g), some (xI l), some (xI k), some (xI (2 * (i : Int))), some (xI (wh i : Int)), some (xI (s (2 * i + 1))), some (xI (bI (ded s i < 6))), some (xI (if ded s i < 6 then ded s i else 0)), some (xI (bI (l < dst wh (ded s) S0 (i + 1) (8 + wh i) 8))), some (xI (bI (l < dst wh (ded s) S0 (i + 1) (8 + wh i) 9)))] [] τ1 Q = X L 167 379 (gLs g l k i (wh i) (s (2 * i + 1)) (bI (ded s i < 6)) (if ded s i < 6 then ded s i else 0) (some (xI (bI (l < dst wh (ded s) S0 (i + 1) (8 + wh i) 8)))) (some (xI (bI (l < dst wh (ded s) S0 (i + 1) (8 + wh i) 9))))) [] (up (up (up τ1 75 29 (i : Int)) 75 30 (wh i : Int)) 75 31 (if l < dst wh (ded s) S0 (i + 1) (8 + wh i) 8 then 0 else 1)) Q := by
          intro Q
          simp only [e_167_302, e_167_326, e_167_327, e_167_330, brI, not_true_eq_false, true_implies, false_implies, implies_true, and_true, cTag, cTgt, cLen, true_and, Int.toNat_natCast, retI_I, retR_R, retV_N, retL_L, ne_eq, Int.reduceEq, not_false_eq_true, td, w32_id (x := (i : Int)) (by omega) (by omega), bI_0]
          by_cases c8 : l < dst wh (ded s) S0 (i + 1) (8 + wh i) 8
          · rw [if_neg (fun q => q c8), if_pos c8]
          · rw [if_pos c8, if_neg c8]
        refine ⟨up (up (up τ1 75 29 (i : Int)) 75 30 (wh i : Int)) 75 31 (if l < dst wh (ded s) S0 (i + 1) (8 + wh i) 8 then 0 else 1), (some (xI (bI (l < dst wh (ded s) S0 (i + 1) (8 + wh i) 8)))), (some (xI (bI (l < dst wh (ded s) S0 (i + 1) (8 + wh i) 9)))), fun Q => ?_, ?_, ?_, ?_, ?_, ?_⟩
        · rw [e_167_283]
          simp only [brI, not_true_eq_false, true_implies, false_implies, implies_true, and_true, cTag, cTgt, cLen, true_and, Int.toNat_natCast, retI_I, retR_R, retV_N, retL_L, ne_eq, Int.reduceEq, not_false_eq_true, bI_0, r29, if_false]
          by_cases c8 : l < dst wh (ded s) S0 (i + 1) (8 + wh i) 8
          · rw [if_pos (show ¬ ¬ l < dst wh (ded s) S0 (i + 1) (8 + wh i) 8 from fun q => q c8)]; exact e302 Q
          · have c9 := cl.resolve_left c8
            rw [if_neg (show ¬ ¬ ¬ l < dst wh (ded s) S0 (i + 1) (8 + wh i) 8 from fun q => q c8), if_neg (fun q => q c9)]; exact e302 Q
        · exact (FG1.tr (FrG_u (by omega))).tr ((FrG_u (by omega)).tr (FrG_u (by omega)))
        · rw [vN_u (by omega), vN_u (by omega), vN_u (by omega)]; exact hMt
        · simp [up_rd]
        · simp [up_rd]
        · simp [up_rd]
      · have hou : ou wh (ded s) S0 l (i + 1) = ou wh (ded s) S0 l i := if_neg (fun q => cl q.2.2)
        rw [hou]
        have c8 : ¬ l < dst wh (ded s) S0 (i + 1) (8 + wh i) 8 := fun q => cl (Or.inl q)
        have c9 : ¬ l < dst wh (ded s) S0 (i + 1) (8 + wh i) 9 := fun q => cl (Or.inr q)
        refine ⟨τ1, (some (xI (bI (l < dst wh (ded s) S0 (i + 1) (8 + wh i) 8)))), (some (xI (bI (l < dst wh (ded s) S0 (i + 1) (8 + wh i) 9)))), fun Q => ?_, FG1, hMt, ?_, ?_, ?_⟩
        · rw [e_167_283]
          simp only [brI, not_true_eq_false, true_implies, false_implies, implies_true, and_true, cTag, cTgt, cLen, true_and, Int.toNat_natCast, retI_I, retR_R, retV_N, retL_L, ne_eq, Int.reduceEq, not_false_eq_true, bI_0, r29, if_false]
          rw [if_neg (show ¬ ¬ ¬ l < dst wh (ded s) S0 (i + 1) (8 + wh i) 8 from fun q => q c8), if_pos c9, e_167_330]
        · rw [z2 29 (by omega), o3]
        · rw [z2 30 (by omega), o4]
        · rw [z2 31 (by omega), o5]
    · have hou : ou wh (ded s) S0 l (i + 1) = ou wh (ded s) S0 l i := if_neg (fun q => co q.1)
      rw [hou]
      have r29 : 0 ≤ τ1 75 29 := by rw [z2 29 (by omega), o3]; omega
      refine ⟨τ1, (some (xI (bI (l < dst wh (ded s) S0 (i + 1) (8 + wh i) 8)))), (some (xI (bI (l < dst wh (ded s) S0 (i + 1) (8 + wh i) 9)))), fun Q => ?_, FG1, hMt, ?_, ?_, ?_⟩
      · rw [e_167_283]
        simp only [brI, not_true_eq_false, true_implies, false_implies, implies_true, and_true, cTag, cTgt, cLen, true_and, Int.toNat_natCast, retI_I, retR_R, retV_N, retL_L, ne_eq, Int.reduceEq, not_false_eq_true, r29, if_true]
        rw [e_167_330]
      · rw [z2 29 (by omega), o3]
      · rw [z2 30 (by omega), o4]
      · rw [z2 31 (by omega), o5]
  · have hou : ou wh (ded s) S0 l (i + 1) = ou wh (ded s) S0 l i := if_neg (fun q => cw q.2.1)
    rw [bI_f cw, if_neg cw, hou]
    by_cases c6 : ded s i = 6
    · rw [if_neg (by omega), if_neg cw] at hw
      obtain ⟨τ1, e1, hMt, hF1⟩ := x_buyM (L := L) hV hM1 hp c0 hw
      have hn' : dst wh (ded s) S0 (i + 1) = stB S (wh i) := by rw [hn]; unfold stp; rw [if_neg cw, if_pos c6]
      rw [← hn'] at hMt
      refine ⟨τ1, d9, d10, fun Q => ?_, F1.tr (FrG_N hF1), hMt, ?_, ?_, ?_⟩
      · rw [e_167_230]
        simp only [brI, not_true_eq_false, true_implies, false_implies, implies_true, and_true, cTag, cTgt, cLen, true_and, Int.toNat_natCast, retI_I, retR_R, retV_N, retL_L, ne_eq, Int.reduceEq, not_false_eq_true, if_true]
        rw [e_167_333]
        simp only [brI, not_true_eq_false, true_implies, false_implies, implies_true, and_true, cTag, cTgt, cLen, true_and, Int.toNat_natCast, retI_I, retR_R, retV_N, retL_L, ne_eq, Int.reduceEq, not_false_eq_true, h43.mpr c6, if_false, e1]
      · rw [hF1 75 (by omega), z1 29 (by omega), o3]
      · rw [hF1 75 (by omega), z1 30 (by omega), o4]
      · rw [hF1 75 (by omega), z1 31 (by omega), o5]
    · obtain ⟨hMt, hF1⟩ := x_thrM hM1 hp
      have hn' : dst wh (ded s) S0 (i + 1) = pw S (8 + wh i) (fTh (S (8 + wh i))) := by rw [hn]; unfold stp; rw [if_neg cw, if_neg c6]
      rw [← hn'] at hMt
      have n43 : ¬ s (2 * i + 1) = 43 := fun q => c6 (h43.mp q)
      refine ⟨up (up (up σ1 93 (wh i) 0) 94 (2 * wh i) 0) 94 (2 * wh i + 1) 0, d9, d10, fun Q => ?_, F1.tr (FrG_N hF1), hMt, ?_, ?_, ?_⟩
      · rw [e_167_230]
        simp only [brI, not_true_eq_false, true_implies, false_implies, implies_true, and_true, cTag, cTgt, cLen, true_and, Int.toNat_natCast, retI_I, retR_R, retV_N, retL_L, ne_eq, Int.reduceEq, not_false_eq_true, if_true]
        rw [e_167_333]
        simp only [brI, not_true_eq_false, true_implies, false_implies, implies_true, and_true, cTag, cTgt, cLen, true_and, Int.toNat_natCast, retI_I, retR_R, retV_N, retL_L, ne_eq, Int.reduceEq, not_false_eq_true, n43, if_true]
        rw [e_167_349]
        simp only [brI, not_true_eq_false, true_implies, false_implies, implies_true, and_true, cTag, cTgt, cLen, true_and, Int.toNat_natCast, retI_I, retR_R, retV_N, retL_L, ne_eq, Int.reduceEq, not_false_eq_true]
        simp (disch := omega) only [w32_id, inb, true_and, Int.toNat_add, Int.toNat_mul, Int.toNat_natCast, Int.reduceToNat]
      · rw [hF1 75 (by omega), z1 29 (by omega), o3]
      · rw [hF1 75 (by omega), z1 30 (by omega), o4]
      · rw [hF1 75 (by omega), z1 31 (by omega), o5]
end GoDay
