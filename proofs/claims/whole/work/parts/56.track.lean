/-! TRACK, SPY -/
section Track
variable {B : Int} {S σ τ : Mem} {L v : Nat} {T : Ful}
abbrev tkC (S : Mem) (l r m : Int) (i : Nat) : Prop := S (8 + i) 0 = 1 ∧ (lvp (S (8 + i)) 1 l ∧ lvp (S (8 + i)) 2 r) ∧ (m = 2 ∨ m = bI (lmp (S (8 + i)) (S 0 2)))
def tk (S : Mem) (l r m : Int) : Nat → Nat
  | 0 => 0
  | i + 1 => if tkC S l r m i then tk S l r m i ||| 2 ^ i else tk S l r m i
theorem tk_lt (S : Mem) (l r m : Int) (i : Nat) (hi : i ≤ 4) : tk S l r m i < 16 := by
  induction i with
  | zero => show 0 < 16; omega
  | succ i ih =>
    have h := ih (by omega)
    simp only [tk]
    split
    · have h2 : 2 ^ i < 2 ^ 4 := Nat.pow_lt_pow_right (by omega) (by omega)
      exact Nat.or_lt_two_pow (n := 4) h h2
    · exact h
theorem or_sh1 {a i : Nat} (ha : a < 16) (hi : i < 4) : or32 (a : Int) (shl32 1 (i : Int)) = ((a ||| 2 ^ i : Nat) : Int) := by
  have h2 : 2 ^ i < 2 ^ 4 := Nat.pow_lt_pow_right (by omega) (by omega)
  rw [shl32_n (by omega)]
  exact or32_n (by omega) (by omega)
theorem or_0 {a : Nat} (ha : a < 16) : or32 (a : Int) 0 = (a : Int) := by
  have : or32 (a : Int) ((0 : Nat) : Int) = ((a ||| 0 : Nat) : Int) := or32_n (by omega) (by omega)
  rw [Nat.or_zero] at this
  exact this
abbrev gTrk (l r m : Int) : Prop := ((0 ≤ l ∧ l ≤ 6) ∧ (0 ≤ r ∧ r ≤ 6)) ∧ (0 ≤ m ∧ m ≤ 2)
def a_track (T : Ful) (l r m : Int) : Int := if gTrk l r m then (tk (T 0) l r m 4 : Int) else -2
theorem lvp_c {f g : Nat → Int} {s q : Int} (h3 : f 3 = g 3) (h4 : f 4 = g 4) (h6 : f 6 = g 6) (h7 : f 7 = g 7) : lvp f s q ↔ lvp g s q := by
  unfold lvp wrs szo; rw [h3, h4, h6, h7]
theorem c_track (hI : IC T σ) (hV : IV B T) (hB : B ≤ 1000000) (l r m : Int) : CO σ (X L 113 0 [some (xR 0), some (xI l), some (xI r), some (xI m), none, none, none, none, none] [] σ) (a_track T l r m) T := by
  refine CO_n hI (fun Q => ?_)
  unfold a_track
  by_cases c : gTrk l r m
  · obtain ⟨⟨c1, c2⟩, c3⟩ := id c
    rw [if_pos c]
    have e2 := hI.1.1 2 (by omega)
    obtain ⟨a, st, -⟩ := lpE (n := 4) (fun i (d : Option PV × Option PV × Option PV) Q => X L 113 41 [some (xR 0), some (xI l), some (xI r), some (xI m), some (xI (tk (T 0) l r m i : Int)), some (xI (i : Int)), d.1, d.2.1, d.2.2] [] σ Q) (fun _ _ => True) (by
      intro i ⟨d6, d7, d8⟩ hi _
      obtain ⟨a1, a2, a3, a4, a5, a6, a7, a8, a9, a10, a11, a12⟩ := hV.1.p hi
      have hk := hV.1.2.2.1
      have hl := fun Q => x_limps (L := L) (σ := σ) (gt_p iV1 hi) (T 0 0 2) hk.1 (by rw [hI.1.p hi (by omega)]; omega) (by rw [hI.1.p hi (by omega)]; omega) Q
      have g6 : σ (1 + 11 + i) 6 = 0 ∨ σ (1 + 11 + i) 6 = 1 := by rw [hI.1.p hi (by omega)]; exact a7
      have g7 : σ (1 + 11 + i) 7 = 0 ∨ σ (1 + 11 + i) 7 = 1 := by rw [hI.1.p hi (by omega)]; exact a8
      have lv := fun s q => bI_c (lvp_c (f := σ (1 + 11 + i)) (g := T 0 (8 + i)) (s := s) (q := q) (hI.1.p hi (by omega)) (hI.1.p hi (by omega)) (hI.1.p hi (by omega)) (hI.1.p hi (by omega)))
      have hle := fun s q Q => x_leaves (L := L) (σ := σ) (gt_p iV1 hi) s q g6 g7 Q
      have hb := tk_lt (T 0) l r m i (by omega)
      have hlm := bI_c (RC_lmp hI.1 hi (T 0 0 2))
      have e0 := hI.1.p hi (f := 0) (by omega)
      refine ⟨(some (xR (1 + 11 + i)), some (xI (bI (lmp (T 0 (8 + i)) (T 0 0 2)))), some (xI (bI (lvp (T 0 (8 + i)) 1 l ∧ lvp (T 0 (8 + i)) 2 r)))), fun Q => ?_, trivial⟩
      show X L 113 41 [some (xR 0), some (xI l), some (xI r), some (xI m), some (xI (tk (T 0) l r m i : Int)), some (xI (i : Int)), d6, d7, d8] [] σ Q = X L 113 41 [some (xR 0), some (xI l), some (xI r), some (xI m), some (xI (tk (T 0) l r m (i + 1) : Int)), some (xI ((i + 1 : Nat) : Int)), some (xR (1 + 11 + i)), some (xI (bI (lmp (T 0 (8 + i)) (T 0 0 2)))), some (xI (bI (lvp (T 0 (8 + i)) 1 l ∧ lvp (T 0 (8 + i)) 2 r)))] [] σ Q
      have h78 : ∀ b : Int, b = bI (lmp (T 0 (8 + i)) (T 0 0 2)) → X L 113 78 [some (xR 0), some (xI l), some (xI r), some (xI m), some (xI (tk (T 0) l r m i : Int)), some (xI (i : Int)), some (xR (1 + 11 + i)), d7, d8] [xI b] σ Q = X L 113 41 [some (xR 0), some (xI l), some (xI r), some (xI m), some (xI (tk (T 0) l r m (i + 1) : Int)), some (xI ((i + 1 : Nat) : Int)), some (xR (1 + 11 + i)), some (xI b), some (xI (bI (lvp (T 0 (8 + i)) 1 l ∧ lvp (T 0 (8 + i)) 2 r)))] [] σ Q := by
        intro b hbe
        have nx : ∀ (n x : Int), X L 113 140 [some (xR 0), some (xI l), some (xI r), some (xI m), some (xI n), some (xI (i : Int)), some (xR (1 + 11 + i)), some (xI b), some (xI x)] [] σ Q = X L 113 41 [some (xR 0), some (xI l), some (xI r), some (xI m), some (xI n), some (xI ((i + 1 : Nat) : Int)), some (xR (1 + 11 + i)), some (xI b), some (xI x)] [] σ Q := by
          intro n x; rw [e_113_140, w32_id (by omega) (by omega)]; rfl
        have h105 : ∀ x : Int, x = bI (lvp (T 0 (8 + i)) 1 l ∧ lvp (T 0 (8 + i)) 2 r) → X L 113 105 [some (xR 0), some (xI l), some (xI r), some (xI m), some (xI (tk (T 0) l r m i : Int)), some (xI (i : Int)), some (xR (1 + 11 + i)), some (xI b), d8] [xI x] σ Q = X L 113 41 [some (xR 0), some (xI l), some (xI r), some (xI m), some (xI (tk (T 0) l r m (i + 1) : Int)), some (xI ((i + 1 : Nat) : Int)), some (xR (1 + 11 + i)), some (xI b), some (xI x)] [] σ Q := by
          intro x hx
          rw [e_113_105]
          simp only [brI, not_true_eq_false, true_implies, false_implies, implies_true, and_true, cTag, cTgt, cLen, true_and, Int.toNat_natCast, retI_I, retR_R, retV_N, retL_L, ne_eq, Int.reduceEq, not_false_eq_true, gt_p iV1 hi, e0, e_113_131, or_sh1 hb hi, nx]
          by_cases ck : tkC (T 0) l r m i
          · have u : tk (T 0) l r m (i + 1) = tk (T 0) l r m i ||| 2 ^ i := if_pos ck
            have x1 : x = 1 := by rw [hx]; exact bI_t ck.2.1
            rw [u, if_neg (show ¬ T 0 (8 + i) 0 = 0 from fun q => absurd (q.symm.trans ck.1) (by decide)), if_neg (show ¬ x = 0 from fun q => absurd (q.symm.trans x1) (by decide))]
            by_cases m2 : m = 2
            · rw [if_pos m2]
            · rw [if_neg m2, if_neg (fun q => q (by rw [hbe]; exact ck.2.2.resolve_left m2))]
          · have u : tk (T 0) l r m (i + 1) = tk (T 0) l r m i := if_neg ck
            rw [u]
            by_cases t0 : T 0 (8 + i) 0 = 0
            · rw [if_pos t0]
            · rw [if_neg t0]
              by_cases x0 : x = 0
              · rw [if_pos x0]
              · have hp : lvp (T 0 (8 + i)) 1 l ∧ lvp (T 0 (8 + i)) 2 r := Classical.byContradiction (fun q => x0 (by rw [hx]; exact bI_f q))
                rw [if_neg x0]
                have hm : ¬ (m = 2 ∨ m = bI (lmp (T 0 (8 + i)) (T 0 0 2))) := fun q => ck ⟨a1.resolve_left t0, hp, q⟩
                rw [if_neg (fun q => hm (Or.inl q)), if_pos (fun q => hm (Or.inr (by rw [← hbe]; exact q)))]
        rw [e_113_78]
        simp only [brI, not_true_eq_false, true_implies, false_implies, implies_true, and_true, cTag, cTgt, cLen, true_and, Int.toNat_natCast, retI_I, retR_R, retV_N, retL_L, ne_eq, Int.reduceEq, not_false_eq_true, gt_p iV1 hi, hle, lv, bI_0, e_113_104]
        by_cases p1 : lvp (T 0 (8 + i)) 1 l
        · by_cases p2 : lvp (T 0 (8 + i)) 2 r
          · rw [if_neg (fun q => q p1), if_neg (fun q => q p2), bI_t ⟨p1, p2⟩]
            exact h105 1 (bI_t ⟨p1, p2⟩).symm
          · rw [if_neg (fun q => q p1), if_pos p2, bI_f (fun q => p2 q.2)]
            exact h105 0 (bI_f (fun q => p2 q.2)).symm
        · rw [if_pos p1, bI_f (fun q => p1 q.1)]
          exact h105 0 (bI_f (fun q => p1 q.1)).symm
      rw [e_113_41]
      simp only [brI, not_true_eq_false, true_implies, false_implies, implies_true, and_true, cTag, cTgt, cLen, true_and, Int.toNat_natCast, retI_I, retR_R, retV_N, retL_L, ne_eq, Int.reduceEq, not_false_eq_true, x_personAt iV1 hi, gt_p iV1 hi, e2, hl, hlm, bI_0, e_113_77]
      rw [if_neg (by omega)]
      by_cases cl : lmp (T 0 (8 + i)) (T 0 0 2)
      · rw [if_neg (fun q => q cl), bI_t cl]; exact h78 1 (bI_t cl).symm
      · rw [if_pos cl, bI_f cl]; exact h78 0 (bI_f cl).symm) (a := (none, none, none)) trivial
    obtain ⟨d6, d7, d8⟩ := a
    have st : X L 113 41 [some (xR 0), some (xI l), some (xI r), some (xI m), some (xI 0), some (xI 0), none, none, none] [] σ Q = X L 113 41 [some (xR 0), some (xI l), some (xI r), some (xI m), some (xI (tk (T 0) l r m 4 : Int)), some (xI 4), d6, d7, d8] [] σ Q := st Q
    simp only [e_113_0, e_113_23, e_113_35, brI, not_true_eq_false, true_implies, false_implies, implies_true, and_true, cTag, cTgt, cLen, true_and, Int.toNat_natCast, retI_I, retR_R, retV_N, retL_L, ne_eq, Int.reduceEq, not_false_eq_true, x_isWithin, bI_0, c1, c2, c3, if_true, if_false, and_self, st]
    rw [e_113_41, e_113_146]
    simp only [brI, not_true_eq_false, true_implies, false_implies, implies_true, and_true, cTag, cTgt, cLen, true_and, Int.toNat_natCast, retI_I, retR_R, retV_N, retL_L, ne_eq, Int.reduceEq, not_false_eq_true, Int.le_refl, if_true]
  · rw [if_neg c]
    simp only [e_113_0, e_113_20, e_113_23, brI, not_true_eq_false, true_implies, false_implies, implies_true, and_true, cTag, cTgt, cLen, true_and, Int.toNat_natCast, retI_I, retR_R, retV_N, retL_L, ne_eq, Int.reduceEq, not_false_eq_true, x_isWithin, bI_0]
    by_cases c1 : 0 ≤ l ∧ l ≤ 6
    · by_cases c2 : 0 ≤ r ∧ r ≤ 6
      · have c3 : ¬ (0 ≤ m ∧ m ≤ 2) := fun q => c ⟨⟨c1, c2⟩, q⟩
        simp only [c1, c2, c3, brI, not_true_eq_false, true_implies, false_implies, implies_true, and_true, cTag, cTgt, cLen, true_and, Int.toNat_natCast, retI_I, retR_R, retV_N, retL_L, ne_eq, Int.reduceEq, not_false_eq_true, if_true, if_false, and_self]
      · simp only [c1, c2, brI, not_true_eq_false, true_implies, false_implies, implies_true, and_true, cTag, cTgt, cLen, true_and, Int.toNat_natCast, retI_I, retR_R, retV_N, retL_L, ne_eq, Int.reduceEq, not_false_eq_true, if_true, if_false, and_self]
    · simp only [c1, brI, not_true_eq_false, true_implies, false_implies, implies_true, and_true, cTag, cTgt, cLen, true_and, Int.toNat_natCast, retI_I, retR_R, retV_N, retL_L, ne_eq, Int.reduceEq, not_false_eq_true, if_true, if_false]
theorem x_isPrint (hM : RM (vP σ) S) (hS : VS B S) {p : Nat} (hp : p < 4) (h1 : S (8 + p) 0 = 1) {s : Nat} (hs : s < 2) (q : Int) (Q : PQ) : X L 197 0 [some (xR 75), some (xI (p : Int)), some (xI (s : Int)), some (xI q), none] [] σ Q = Q (some (xI (bI (lvp (S (8 + p)) ((s : Int) + 1) q)))) σ := by
  obtain ⟨a1, a2, a3, a4, a5, a6, a7, a8, a9, a10, a11, a12⟩ := hS.p hp
  have hP := hM.pp p hp h1
  have sh : σ 86 p = S (8 + p) 6 + 2 * S (8 + p) 7 := hP.sh
  have f0 : σ 83 (2 * p) = S (8 + p) 3 := hP.fl
  have f1 : σ 83 (2 * p + 1) = S (8 + p) 4 := hP.fr
  have hb := bit_sh a7 a8
  have hbit : bit (σ 86 p) (s : Int) ↔ ¬ wrs (S (8 + p)) ((s : Int) + 1) = 0 := by
    rw [sh]
    rcases (show s = 0 ∨ s = 1 by omega) with rfl | rfl
    · exact hb.1
    · exact hb.2
  have hsz : σ 83 (2 * p + s) = szo (S (8 + p)) ((s : Int) + 1) := by
    rcases (show s = 0 ∨ s = 1 by omega) with rfl | rfl
    · exact f0
    · exact f1
  simp only [e_197_0, e_197_31, e_197_50, e_197_54, e_197_55, brI, not_true_eq_false, true_implies, false_implies, implies_true, and_true, cTag, cTgt, cLen, true_and, Int.toNat_natCast, retI_I, retR_R, retV_N, retL_L, ne_eq, Int.reduceEq, not_false_eq_true, x_has, bI_0]
  simp (disch := omega) only [w32_id, inb, true_and, Int.toNat_add, Int.toNat_mul, Int.toNat_natCast, Int.reduceToNat, hsz, hbit]
  unfold lvp
  by_cases q6 : q = 6
  · simp [q6, bI]
  · by_cases q5 : q = 5
    · by_cases cw : wrs (S (8 + p)) ((s : Int) + 1) = 0 <;> simp [q5, cw, bI]
    · by_cases cw : wrs (S (8 + p)) ((s : Int) + 1) = 0 <;> by_cases cs : szo (S (8 + p)) ((s : Int) + 1) = q <;> simp [q6, q5, cw, cs, bI]
theorem m_track (hI : IM T σ) (hV : IV B T) (hB : B ≤ 1000000) (l r m : Int) : MO σ (X L 198 0 [some (xR 75), some (xI l), some (xI r), some (xI m), none, none, none] [] σ) (a_track T l r m) T := by
  unfold a_track
  by_cases c : gTrk l r m
  · obtain ⟨⟨c1, c2⟩, c3⟩ := id c
    rw [if_pos c]
    obtain ⟨τ, e, hM, hF⟩ := x_asNow (L := L) hI.1
    have hMP : RM (vP τ) (T 0) := RM_cg (vP_eq (fun o ho => hF o (by omega)) (fun j _ => by rw [hF 75 (by omega)])) hI.1
    have h9 : τ 75 9 = thb (T 0) := hMP.th
    have hm0 : m = 0 ∨ m = 1 ∨ m = 2 := by omega
    obtain ⟨d, st, -⟩ := lpE (n := 4) (fun i (d : Option PV) Q => X L 198 42 [some (xR 75), some (xI l), some (xI r), some (xI m), some (xI (tk (T 0) l r m i : Int)), some (xI (i : Int)), d] [] τ Q) (fun _ _ => True) (by
      intro i d hi _
      have h01 := (hV.1.p hi).1
      have hb := tk_lt (T 0) l r m i (by omega)
      refine ⟨some (xI (bI (tkC (T 0) l r m i))), fun Q => ?_, trivial⟩
      show X L 198 42 [some (xR 75), some (xI l), some (xI r), some (xI m), some (xI (tk (T 0) l r m i : Int)), some (xI (i : Int)), d] [] τ Q = X L 198 42 [some (xR 75), some (xI l), some (xI r), some (xI m), some (xI (tk (T 0) l r m (i + 1) : Int)), some (xI ((i + 1 : Nat) : Int)), some (xI (bI (tkC (T 0) l r m i)))] [] τ Q
      have no : ¬ tkC (T 0) l r m i → X L 198 107 [some (xR 75), some (xI l), some (xI r), some (xI m), some (xI (tk (T 0) l r m i : Int)), some (xI (i : Int)), d] [] τ Q = X L 198 42 [some (xR 75), some (xI l), some (xI r), some (xI m), some (xI (tk (T 0) l r m (i + 1) : Int)), some (xI ((i + 1 : Nat) : Int)), some (xI (bI (tkC (T 0) l r m i)))] [] τ Q := by
        intro ck
        have u : tk (T 0) l r m (i + 1) = tk (T 0) l r m i := if_neg ck
        rw [u, bI_f ck, e_198_107, e_198_108]
        simp only [brI, not_true_eq_false, true_implies, false_implies, implies_true, and_true, cTag, cTgt, cLen, true_and, Int.toNat_natCast, retI_I, retR_R, retV_N, retL_L, ne_eq, Int.reduceEq, not_false_eq_true, if_true, e_198_124, e_198_125, or_0 hb]
        rw [w32_id (by omega) (by omega)]; rfl
      have yes : tkC (T 0) l r m i → X L 198 103 [some (xR 75), some (xI l), some (xI r), some (xI m), some (xI (tk (T 0) l r m i : Int)), some (xI (i : Int)), d] [] τ Q = X L 198 42 [some (xR 75), some (xI l), some (xI r), some (xI m), some (xI (tk (T 0) l r m (i + 1) : Int)), some (xI ((i + 1 : Nat) : Int)), some (xI (bI (tkC (T 0) l r m i)))] [] τ Q := by
        intro ck
        have u : tk (T 0) l r m (i + 1) = tk (T 0) l r m i ||| 2 ^ i := if_pos ck
        rw [u, bI_t ck, e_198_103, e_198_108]
        simp only [brI, not_true_eq_false, true_implies, false_implies, implies_true, and_true, cTag, cTgt, cLen, true_and, Int.toNat_natCast, retI_I, retR_R, retV_N, retL_L, ne_eq, Int.reduceEq, not_false_eq_true, Int.reduceEq, if_false, e_198_125, or_sh1 hb hi]
        rw [w32_id (by omega) (by omega)]; rfl
      rw [e_198_42]
      simp only [brI, not_true_eq_false, true_implies, false_implies, implies_true, and_true, cTag, cTgt, cLen, true_and, Int.toNat_natCast, retI_I, retR_R, retV_N, retL_L, ne_eq, Int.reduceEq, not_false_eq_true, x_isThereM hV.1 h9, thr_n hi]
      rw [if_neg (by omega)]
      by_cases t0 : T 0 (8 + i) 0 = 0
      · rw [if_pos t0]; exact no (fun q => absurd (t0.symm.trans q.1) (by decide))
      · have t1 : T 0 (8 + i) 0 = 1 := h01.resolve_left t0
        have p1 := fun q Q => x_isPrint (L := L) hMP hV.1 hi t1 (s := 0) (by omega) q Q
        have p2 := fun q Q => x_isPrint (L := L) hMP hV.1 hi t1 (s := 1) (by omega) q Q
        have p1 : ∀ (q : Int) (Q : PQ), X L 197 0 [some (xR 75), some (xI (i : Int)), some (xI 0), some (xI q), none] [] τ Q = Q (some (xI (bI (lvp (T 0 (8 + i)) 1 q)))) τ := p1
        have p2 : ∀ (q : Int) (Q : PQ), X L 197 0 [some (xR 75), some (xI (i : Int)), some (xI 1), some (xI q), none] [] τ Q = Q (some (xI (bI (lvp (T 0 (8 + i)) 2 q)))) τ := p2
        rw [if_neg t0]
        simp only [p1, p2, x_limpsNow hV.1 hB hM hi t1, retI_I, bI_0, e_198_99, e_198_100, brI]
        by_cases l1 : lvp (T 0 (8 + i)) 1 l
        · by_cases l2 : lvp (T 0 (8 + i)) 2 r
          · rw [if_neg (fun q => q l1), if_neg (fun q => q l2)]
            by_cases m2 : m = 2
            · rw [if_pos m2]; exact yes ⟨t1, ⟨l1, l2⟩, Or.inl m2⟩
            · rw [if_neg m2]
              by_cases m1 : m = 1
              · rw [if_neg (fun q => q m1)]
                by_cases cl : bI (lmp (T 0 (8 + i)) (T 0 0 2)) = 1
                · rw [if_neg (fun q => q cl)]; exact yes ⟨t1, ⟨l1, l2⟩, Or.inr (m1.trans cl.symm)⟩
                · rw [if_pos cl]; exact no (fun q => q.2.2.elim m2 (fun z => cl (z.symm.trans m1)))
              · rw [if_pos m1]
                have m0 : m = 0 := (hm0.resolve_right (fun q => q.elim m1 m2))
                by_cases cl : lmp (T 0 (8 + i)) (T 0 0 2)
                · rw [if_pos (fun q => q cl)]; exact no (fun q => q.2.2.elim m2 (fun z => m1 (z.trans (bI_t cl))))
                · rw [if_neg (fun q => q cl)]; exact yes ⟨t1, ⟨l1, l2⟩, Or.inr (m0.trans (bI_f cl).symm)⟩
          · rw [if_neg (fun q => q l1), if_pos l2]; exact no (fun q => l2 q.2.1.2)
        · rw [if_pos l1]; exact no (fun q => l1 q.2.1.1)) (a := none) trivial
    refine MO_q hI ⟨τ, fun Q => ?_, FrM_N hF⟩
    have st : X L 198 42 [some (xR 75), some (xI l), some (xI r), some (xI m), some (xI 0), some (xI 0), none] [] τ Q = X L 198 42 [some (xR 75), some (xI l), some (xI r), some (xI m), some (xI (tk (T 0) l r m 4 : Int)), some (xI 4), d] [] τ Q := st Q
    simp only [e_198_0, e_198_32, brI, not_true_eq_false, true_implies, false_implies, implies_true, and_true, cTag, cTgt, cLen, true_and, Int.toNat_natCast, retI_I, retR_R, retV_N, retL_L, ne_eq, Int.reduceEq, not_false_eq_true, x_in, bI_0, c1, c2, c3, if_true, if_false, and_self, e, st]
    rw [e_198_42, e_198_134]
    simp only [brI, not_true_eq_false, true_implies, false_implies, implies_true, and_true, cTag, cTgt, cLen, true_and, Int.toNat_natCast, retI_I, retR_R, retV_N, retL_L, ne_eq, Int.reduceEq, not_false_eq_true, Int.le_refl, if_true]
  · rw [if_neg c]
    refine MO_n hI (fun Q => ?_)
    simp only [e_198_0, e_198_29, brI, not_true_eq_false, true_implies, false_implies, implies_true, and_true, cTag, cTgt, cLen, true_and, Int.toNat_natCast, retI_I, retR_R, retV_N, retL_L, ne_eq, Int.reduceEq, not_false_eq_true, x_in, bI_0]
    by_cases c1 : 0 ≤ l ∧ l ≤ 6
    · by_cases c2 : 0 ≤ r ∧ r ≤ 6
      · have c3 : ¬ (0 ≤ m ∧ m ≤ 2) := fun q => c ⟨⟨c1, c2⟩, q⟩
        simp only [c1, c2, c3, brI, not_true_eq_false, true_implies, false_implies, implies_true, and_true, cTag, cTgt, cLen, true_and, Int.toNat_natCast, retI_I, retR_R, retV_N, retL_L, ne_eq, Int.reduceEq, not_false_eq_true, if_true, if_false, and_self]
      · simp only [c1, c2, brI, not_true_eq_false, true_implies, false_implies, implies_true, and_true, cTag, cTgt, cLen, true_and, Int.toNat_natCast, retI_I, retR_R, retV_N, retL_L, ne_eq, Int.reduceEq, not_false_eq_true, if_true, if_false, and_self]
    · simp only [c1, brI, not_true_eq_false, true_implies, false_implies, implies_true, and_true, cTag, cTgt, cLen, true_and, Int.toNat_natCast, retI_I, retR_R, retV_N, retL_L, ne_eq, Int.reduceEq, not_false_eq_true, if_true, if_false]
/-! SPY -/
def psn (S : Mem) (l r : Int) : Nat → Int
  | 0 => 0
  | i + 1 => psn S l r i + (if S (8 + i) 0 = 1 ∧ S (8 + i) 3 = l ∧ S (8 + i) 4 = r then 1 else 0)
theorem psn_b (S : Mem) (l r : Int) (i : Nat) : 0 ≤ psn S l r i ∧ psn S l r i ≤ i := by
  induction i with
  | zero => exact ⟨Int.le_refl _, Int.le_refl _⟩
  | succ i ih => simp only [psn]; split <;> omega
theorem psn_0 (hS : VS B S) {l r : Int} (hr : 5 ≤ r) (i : Nat) (hi : i ≤ 4) : psn S l r i = 0 := by
  induction i with
  | zero => rfl
  | succ i ih =>
    have := (hS.p (p := i) (by omega)).2.2.2.2.1
    simp only [psn]; rw [ih (by omega), if_neg (by omega)]; rfl
theorem x_sizes (hv : IsV v) (hR : RC v S σ) (hS : VS B S) (l r : Int) (d3 d4 d5 : Option PV) (Q : PQ) : X L 56 0 [some (xR v), some (xI l), some (xI r), d3, d4, d5] [] σ Q = Q (some (xI (psn S l r 4))) σ := by
  obtain ⟨a, st, -⟩ := lpE (n := 4) (fun i (d : Option PV) Q => X L 56 5 [some (xR v), some (xI l), some (xI r), some (xI (psn S l r i)), some (xI (i : Int)), d] [] σ Q) (fun _ _ => True) (by
    intro i d hi _
    have h01 := (hS.p hi).1
    have hb := psn_b S l r i
    refine ⟨some (xR (v + 11 + i)), fun Q => ?_, trivial⟩
    show X L 56 5 [some (xR v), some (xI l), some (xI r), some (xI (psn S l r i)), some (xI (i : Int)), d] [] σ Q = X L 56 5 [some (xR v), some (xI l), some (xI r), some (xI (psn S l r i + (if S (8 + i) 0 = 1 ∧ S (8 + i) 3 = l ∧ S (8 + i) 4 = r then 1 else 0))), some (xI ((i + 1 : Nat) : Int)), some (xR (v + 11 + i))] [] σ Q
    rw [e_56_5]
    simp only [brI, not_true_eq_false, true_implies, false_implies, implies_true, and_true, cTag, cTgt, cLen, true_and, Int.toNat_natCast, retI_I, retR_R, retV_N, retL_L, ne_eq, Int.reduceEq, not_false_eq_true, gv_t hv, x_personAt hv hi, gt_p hv hi, hR.p hi (f := 0) (by omega), hR.p hi (f := 3) (by omega), hR.p hi (f := 4) (by omega), e_56_50, e_56_51]
    rw [if_neg (by omega)]
    by_cases c : S (8 + i) 0 = 1 ∧ S (8 + i) 3 = l ∧ S (8 + i) 4 = r
    · rw [if_pos c, if_neg (by omega), if_neg (fun q => q c.2.1), if_neg (fun q => q c.2.2)]
      simp (disch := omega) only [w32_id]; rfl
    · rw [if_neg c]
      by_cases c0 : S (8 + i) 0 = 0
      · rw [if_pos c0]; simp (disch := omega) only [w32_id]; rfl
      · rw [if_neg c0]
        by_cases c1 : S (8 + i) 3 = l
        · rw [if_neg (fun q => q c1), if_pos (fun q => c ⟨by omega, c1, q⟩)]; simp (disch := omega) only [w32_id]; rfl
        · rw [if_pos c1]; simp (disch := omega) only [w32_id]; rfl) (a := d5) trivial
  rw [e_56_0]
  refine Eq.trans (st Q) ?_
  show X L 56 5 [some (xR v), some (xI l), some (xI r), some (xI (psn S l r 4)), some (xI (4 : Int)), a] [] σ Q = _
  rw [e_56_5, e_56_59]
  simp only [brI, Int.le_refl, if_true]
/-- the class's search: the best sizes, how many -/
def sc (S : Mem) : Nat → Int × Int
  | 0 => (0, 0)
  | k + 1 => if (sc S k).2 < psn S ((k / 5 : Nat) : Int) ((k % 5 : Nat) : Int) 4 then (((10 * (k / 5) + k % 5 : Nat) : Int), psn S ((k / 5 : Nat) : Int) ((k % 5 : Nat) : Int) 4) else sc S k
theorem sc_b (S : Mem) (k : Nat) : 0 ≤ (sc S k).2 ∧ (sc S k).2 ≤ 4 := by
  induction k with
  | zero => exact ⟨Int.le_refl _, (by decide : (0 : Int) ≤ 4)⟩
  | succ k ih =>
    have := psn_b S ((k / 5 : Nat) : Int) ((k % 5 : Nat) : Int) 4
    simp only [sc]; split
    · exact this
    · exact ih
def a_spy (T : Ful) (w : Int) : Int := if 0 ≤ w ∧ w ≤ 1 then (if w = 0 then (sc (T 0) 25).1 else (sc (T 0) 25).2) else -2
theorem c_spy (hI : IC T σ) (hV : IV B T) (w : Int) : CO σ (X L 117 0 [some (xR 0), some (xI w), none, none, none, none] [] σ) (a_spy T w) T := by
  refine CO_n hI (fun Q => ?_)
  unfold a_spy
  by_cases c : 0 ≤ w ∧ w ≤ 1
  · rw [if_pos c]
    obtain ⟨a, st, -⟩ := lpE (n := 25) (fun k (d : Option PV) Q => X L 117 19 [some (xR 0), some (xI w), some (xI (sc (T 0) k).1), some (xI (sc (T 0) k).2), some (xI (k : Int)), d] [] σ Q) (fun _ _ => True) (by
      intro k d hk _
      have t1 : Int.tdiv (k : Int) 5 = ((k / 5 : Nat) : Int) := by rw [Int.tdiv_eq_ediv_of_nonneg (by omega)]; omega
      have t2 : Int.tmod (k : Int) 5 = ((k % 5 : Nat) : Int) := by rw [Int.tmod_eq_emod_of_nonneg (by omega)]; omega
      refine ⟨some (xI (psn (T 0) ((k / 5 : Nat) : Int) ((k % 5 : Nat) : Int) 4)), fun Q => ?_, trivial⟩
      show X L 117 19 [some (xR 0), some (xI w), some (xI (sc (T 0) k).1), some (xI (sc (T 0) k).2), some (xI (k : Int)), d] [] σ Q = X L 117 19 [some (xR 0), some (xI w), some (xI (sc (T 0) (k + 1)).1), some (xI (sc (T 0) (k + 1)).2), some (xI ((k + 1 : Nat) : Int)), some (xI (psn (T 0) ((k / 5 : Nat) : Int) ((k % 5 : Nat) : Int) 4))] [] σ Q
      rw [e_117_19]
      simp only [brI, not_true_eq_false, true_implies, false_implies, implies_true, and_true, cTag, cTgt, cLen, true_and, Int.toNat_natCast, retI_I, retR_R, retV_N, retL_L, ne_eq, Int.reduceEq, not_false_eq_true, t1, t2, w32_id (x := ((k / 5 : Nat) : Int)) (by omega) (by omega), x_sizes iV1 hI.1 hV.1, e_117_65, w32_id (x := (k : Int) + 1) (by omega) (by omega), w32_id (x := 10 * ((k / 5 : Nat) : Int)) (by omega) (by omega), w32_id (x := 10 * ((k / 5 : Nat) : Int) + ((k % 5 : Nat) : Int)) (by omega) (by omega)]
      rw [if_neg (by omega)]
      by_cases c2 : (sc (T 0) k).2 < psn (T 0) ((k / 5 : Nat) : Int) ((k % 5 : Nat) : Int) 4
      · have u : sc (T 0) (k + 1) = (((10 * (k / 5) + k % 5 : Nat) : Int), psn (T 0) ((k / 5 : Nat) : Int) ((k % 5 : Nat) : Int) 4) := if_pos c2
        rw [if_neg (by omega), u, show (10 * ((k / 5 : Nat) : Int) + ((k % 5 : Nat) : Int)) = ((10 * (k / 5) + k % 5 : Nat) : Int) by omega]; rfl
      · have u : sc (T 0) (k + 1) = sc (T 0) k := if_neg c2
        rw [if_pos (by omega), u]; rfl) (a := none) trivial
    have st : X L 117 19 [some (xR 0), some (xI w), some (xI 0), some (xI 0), some (xI 0), none] [] σ Q = X L 117 19 [some (xR 0), some (xI w), some (xI (sc (T 0) 25).1), some (xI (sc (T 0) 25).2), some (xI 25), a] [] σ Q := st Q
    simp only [e_117_0, e_117_12, brI, not_true_eq_false, true_implies, false_implies, implies_true, and_true, cTag, cTgt, cLen, true_and, Int.toNat_natCast, retI_I, retR_R, retV_N, retL_L, ne_eq, Int.reduceEq, not_false_eq_true, x_isWithin, bI_0, c, if_true, if_false, and_self, st]
    rw [e_117_19]
    simp only [e_117_71, e_117_79, e_117_80, brI, not_true_eq_false, true_implies, false_implies, implies_true, and_true, cTag, cTgt, cLen, true_and, Int.toNat_natCast, retI_I, retR_R, retV_N, retL_L, ne_eq, Int.reduceEq, not_false_eq_true, Int.le_refl, if_true]
    by_cases w0 : w = 0
    · rw [if_neg (fun q => q w0), if_pos w0]
    · rw [if_pos w0, if_neg w0]
  · rw [if_neg c]
    simp only [e_117_0, brI, not_true_eq_false, true_implies, false_implies, implies_true, and_true, cTag, cTgt, cLen, true_and, Int.toNat_natCast, retI_I, retR_R, retV_N, retL_L, ne_eq, Int.reduceEq, not_false_eq_true, x_isWithin, bI_0, c, if_true, if_false]
def scf (k : Nat) : Nat := 5 * (k / 10) + min (k % 10) 5
theorem m_spy (hI : IM T σ) (hV : IV B T) (w : Int) : MO σ (X L 202 0 [some (xR 75), some (xI w), none, none, none, none, none] [] σ) (a_spy T w) T := by
  refine MO_n hI (fun Q => ?_)
  have h9 := hI.th
  unfold a_spy
  by_cases c : 0 ≤ w ∧ w ≤ 1
  · rw [if_pos c]
    have inn : ∀ (x y : Int) (k : Nat) (Q : PQ), k < 45 → X L 202 32 [some (xR 75), some (xI w), some (xI x), some (xI y), some (xI (k : Int)), some (xI 0), some (xI 0)] [] σ Q = X L 202 99 [some (xR 75), some (xI w), some (xI x), some (xI y), some (xI (k : Int)), some (xI (psn (T 0) ((k / 10 : Nat) : Int) ((k % 10 : Nat) : Int) 4)), some (xI 4)] [] σ Q := by
      intro x y k Q hk
      have t1 : Int.tdiv (k : Int) 10 = ((k / 10 : Nat) : Int) := by rw [Int.tdiv_eq_ediv_of_nonneg (by omega)]; omega
      have t2 : Int.tmod (k : Int) 10 = ((k % 10 : Nat) : Int) := by rw [Int.tmod_eq_emod_of_nonneg (by omega)]; omega
      have st := lpF (n := 4) (fun i (z : Int) Q => X L 202 32 [some (xR 75), some (xI w), some (xI x), some (xI y), some (xI (k : Int)), some (xI z), some (xI (i : Int))] [] σ Q) (fun i => psn (T 0) ((k / 10 : Nat) : Int) ((k % 10 : Nat) : Int) i) (by
        intro i hi Q
        have h01 := (hV.1.p hi).1
        have hb := psn_b (T 0) ((k / 10 : Nat) : Int) ((k % 10 : Nat) : Int) i
        show X L 202 32 [some (xR 75), some (xI w), some (xI x), some (xI y), some (xI (k : Int)), some (xI (psn (T 0) ((k / 10 : Nat) : Int) ((k % 10 : Nat) : Int) i)), some (xI (i : Int))] [] σ Q = X L 202 32 [some (xR 75), some (xI w), some (xI x), some (xI y), some (xI (k : Int)), some (xI (psn (T 0) ((k / 10 : Nat) : Int) ((k % 10 : Nat) : Int) i + (if T 0 (8 + i) 0 = 1 ∧ T 0 (8 + i) 3 = ((k / 10 : Nat) : Int) ∧ T 0 (8 + i) 4 = ((k % 10 : Nat) : Int) then 1 else 0))), some (xI ((i + 1 : Nat) : Int))] [] σ Q
        rw [e_202_32]
        simp only [brI, not_true_eq_false, true_implies, false_implies, implies_true, and_true, cTag, cTgt, cLen, true_and, Int.toNat_natCast, retI_I, retR_R, retV_N, retL_L, ne_eq, Int.reduceEq, not_false_eq_true, x_isThereM hV.1 h9, thr_n hi, e_202_89, e_202_90, t1, t2]
        rw [if_neg (by omega)]
        by_cases c0 : T 0 (8 + i) 0 = 0
        · rw [if_pos c0, if_neg (by omega)]; simp (disch := omega) only [w32_id]; rfl
        · have hP := hI.1.pp i hi (by omega)
          have f0 : σ 83 (2 * i) = T 0 (8 + i) 3 := hP.fl
          have f1 : σ 83 (2 * i + 1) = T 0 (8 + i) 4 := hP.fr
          rw [if_neg c0]
          simp (disch := omega) only [w32_id, inb, true_and, Int.toNat_add, Int.toNat_mul, Int.toNat_natCast, Int.reduceToNat, f0, f1]
          by_cases c1 : T 0 (8 + i) 3 = ((k / 10 : Nat) : Int)
          · rw [if_neg (fun q => q c1)]
            by_cases c2 : T 0 (8 + i) 4 = ((k % 10 : Nat) : Int)
            · rw [if_neg (fun q => q c2), if_pos ⟨by omega, c1, c2⟩]; rfl
            · rw [if_pos c2, if_neg (fun q => c2 q.2.2)]; rfl
          · rw [if_pos c1, if_neg (fun q => c1 q.2.1)]; rfl) Q
      refine Eq.trans st ?_
      show X L 202 32 [some (xR 75), some (xI w), some (xI x), some (xI y), some (xI (k : Int)), some (xI (psn (T 0) ((k / 10 : Nat) : Int) ((k % 10 : Nat) : Int) 4)), some (xI (4 : Int))] [] σ Q = _
      rw [e_202_32]
      simp only [brI, not_true_eq_false, true_implies, false_implies, implies_true, and_true, cTag, cTgt, cLen, true_and, Int.toNat_natCast, retI_I, retR_R, retV_N, retL_L, ne_eq, Int.reduceEq, not_false_eq_true, Int.le_refl, if_true]
    obtain ⟨⟨d5, d6⟩, st, -⟩ := lpE (n := 45) (fun k (d : Option PV × Option PV) Q => X L 202 19 [some (xR 75), some (xI w), some (xI (sc (T 0) (scf k)).1), some (xI (sc (T 0) (scf k)).2), some (xI (k : Int)), d.1, d.2] [] σ Q) (fun _ _ => True) (by
      intro k ⟨d5, d6⟩ hk _
      have hsb := sc_b (T 0) (scf k)
      refine ⟨(some (xI (psn (T 0) ((k / 10 : Nat) : Int) ((k % 10 : Nat) : Int) 4)), some (xI 4)), fun Q => ?_, trivial⟩
      show X L 202 19 [some (xR 75), some (xI w), some (xI (sc (T 0) (scf k)).1), some (xI (sc (T 0) (scf k)).2), some (xI (k : Int)), d5, d6] [] σ Q = X L 202 19 [some (xR 75), some (xI w), some (xI (sc (T 0) (scf (k + 1))).1), some (xI (sc (T 0) (scf (k + 1))).2), some (xI ((k + 1 : Nat) : Int)), some (xI (psn (T 0) ((k / 10 : Nat) : Int) ((k % 10 : Nat) : Int) 4)), some (xI 4)] [] σ Q
      rw [e_202_19]
      simp only [brI, not_true_eq_false, true_implies, false_implies, implies_true, and_true, cTag, cTgt, cLen, true_and, Int.toNat_natCast, retI_I, retR_R, retV_N, retL_L, ne_eq, Int.reduceEq, not_false_eq_true, inn _ _ k _ hk]
      rw [if_neg (by omega), e_202_99]
      simp only [brI, not_true_eq_false, true_implies, false_implies, implies_true, and_true, cTag, cTgt, cLen, true_and, Int.toNat_natCast, retI_I, retR_R, retV_N, retL_L, ne_eq, Int.reduceEq, not_false_eq_true, e_202_110, e_202_111, e_202_123, e_202_124, w32_id (x := (k : Int) + 1) (by omega) (by omega)]
      by_cases k5 : k % 10 < 5
      · have ef : scf k = 5 * (k / 10) + k % 10 := by unfold scf; omega
        have ef1 : scf (k + 1) = scf k + 1 := by unfold scf; omega
        have d1 : scf k / 5 = k / 10 := by omega
        have d2 : scf k % 5 = k % 10 := by omega
        have d3 : 10 * (k / 10) + k % 10 = k := by omega
        by_cases c2 : (sc (T 0) (scf k)).2 < psn (T 0) ((k / 10 : Nat) : Int) ((k % 10 : Nat) : Int) 4
        · have u : sc (T 0) (scf k + 1) = ((k : Int), psn (T 0) ((k / 10 : Nat) : Int) ((k % 10 : Nat) : Int) 4) := by
            simp only [sc]; rw [d1, d2, if_pos c2, d3]
          rw [if_neg (by omega), if_neg (by omega), ef1, u]; rfl
        · have u : sc (T 0) (scf k + 1) = sc (T 0) (scf k) := by
            simp only [sc]; rw [d1, d2, if_neg c2]
          rw [if_pos (by omega), if_pos (by omega), ef1, u]; rfl
      · have ef1 : scf (k + 1) = scf k := by unfold scf; omega
        have z := psn_0 hV.1 (l := ((k / 10 : Nat) : Int)) (r := ((k % 10 : Nat) : Int)) (by omega) 4 (by omega)
        rw [if_pos (by omega), if_pos (by omega), ef1]; rfl) (a := (none, none)) trivial
    have st : X L 202 19 [some (xR 75), some (xI w), some (xI 0), some (xI 0), some (xI 0), none, none] [] σ Q = X L 202 19 [some (xR 75), some (xI w), some (xI (sc (T 0) 25).1), some (xI (sc (T 0) 25).2), some (xI 45), d5, d6] [] σ Q := st Q
    simp only [e_202_0, e_202_12, brI, not_true_eq_false, true_implies, false_implies, implies_true, and_true, cTag, cTgt, cLen, true_and, Int.toNat_natCast, retI_I, retR_R, retV_N, retL_L, ne_eq, Int.reduceEq, not_false_eq_true, x_in, bI_0, c, if_true, if_false, and_self, st]
    rw [e_202_19]
    simp only [e_202_131, e_202_139, e_202_140, brI, not_true_eq_false, true_implies, false_implies, implies_true, and_true, cTag, cTgt, cLen, true_and, Int.toNat_natCast, retI_I, retR_R, retV_N, retL_L, ne_eq, Int.reduceEq, not_false_eq_true, Int.le_refl, if_true]
    by_cases w0 : w = 0
    · rw [if_neg (fun q => q w0), if_pos w0]
    · rw [if_pos w0, if_neg w0]
  · rw [if_neg c]
    simp only [e_202_0, brI, not_true_eq_false, true_implies, false_implies, implies_true, and_true, cTag, cTgt, cLen, true_and, Int.toNat_natCast, retI_I, retR_R, retV_N, retL_L, ne_eq, Int.reduceEq, not_false_eq_true, x_in, bI_0, c, if_true, if_false]
end Track
