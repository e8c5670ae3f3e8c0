/-! SHOD, the Model's plan -/
section LShod
variable {B : Int} {S σ τ : Mem} {L v : Nat} {T : Ful}
def stq (S : Mem) (p o n x : Nat) (s : Int) (e : Er) : Er := if plC S p o x ∧ S 4 x = s then (if one S p then ofE S p (S 5 x) (d1 S p x) (x : Int) (-6) e else sec S p o x e n) else e
theorem stq_ok (hS : VS B S) {p o n x : Nat} {s : Int} {e : Er} (hx : x < n) (hn : n ≤ 6) (h : okE e) : okE (stq S p o n x s e) := by
  have h5 := hS.2.2.2.2.2.2.2.2.1 x (by omega)
  unfold stq
  split
  · split
    · exact ofE_ok hS h5.1 (d1_b hS p x).1 h
    · exact sec_ok hS (by omega) h n hn
  · exact h
theorem stq2 (hS : VS B S) {p o n x : Nat} (hx : x < 6) : stq S p o n x 2 (stq S p o n x 1 (plE S p o n x)) = plE S p o n (x + 1) := by
  have h4 := hS.2.2.2.2.2.2.2.1 x hx
  simp only [plE]
  by_cases c : plC S p o x
  · rw [if_pos c]
    have c0 := c.1
    by_cases c1 : S 4 x = 1
    · have e1 : ∀ e, stq S p o n x 1 e = (if one S p then ofE S p (S 5 x) (d1 S p x) (x : Int) (-6) e else sec S p o x e n) := fun e => if_pos ⟨c, c1⟩
      have e2 : ∀ e, stq S p o n x 2 e = e := fun e => if_neg (fun q => by have := q.2; omega)
      rw [e2, e1]
    · have e1 : ∀ e, stq S p o n x 2 e = (if one S p then ofE S p (S 5 x) (d1 S p x) (x : Int) (-6) e else sec S p o x e n) := fun e => if_pos ⟨c, by omega⟩
      have e2 : ∀ e, stq S p o n x 1 e = e := fun e => if_neg (fun q => c1 q.2)
      rw [e1, e2]
  · have e2 : ∀ s e, stq S p o n x s e = e := fun s e => if_neg (fun q => c q.1)
    rw [if_neg c, e2, e2]
theorem x_stepS (hI : IM T σ) (hS : VS B (T 0)) (hB : B ≤ 1000000) (hL : LdF (T 0) σ) {p n x o : Nat} (hp : PsV (T 0) p n) (h1 : T 0 (8 + p) 0 = 1) (hx : x < n) (ho : o < 64) {kk l0 s : Int} (hkk : kk = T 0 (8 + p) 6 + 2 * T 0 (8 + p) 7) (hl0 : l0 = bI (lmp (T 0 (8 + p)) (T 0 0 2))) (hno : ¬ (¬ T 0 (8 + p) 6 = 0 ∧ ¬ T 0 (8 + p) 7 = 0)) (hs : s = 1 ∨ s = 2) (d8 d9 : Option PV) {e : Er} (he : HM σ e) (hk : okE e) : ∃ τ c8 c9, (∀ Q : PQ, X L 183 110 [some (xR 75), some (xI (p : Int)), some (xI (o : Int)), some (xI (aT (T 0) p : Int)), some (xI kk), some (xI l0), some (xI (x : Int)), some (xI s), d8, d9] [] σ Q = X L 183 110 [some (xR 75), some (xI (p : Int)), some (xI (o : Int)), some (xI (aT (T 0) p : Int)), some (xI kk), some (xI l0), some (xI (x : Int)), some (xI (s + 1)), c8, c9] [] τ Q) ∧ FrJ σ τ ∧ HM τ (stq (T 0) p o n x s e) := by
  obtain ⟨p1, p2, p3, p4, p5, p6⟩ := id hp
  have hn6 := hS.1
  have hK := hS.2.2.1
  obtain ⟨a1, a2, a3, a4, a5, a6, a7, a8, a9, a10, a11, a12, a13⟩ := hS.p p1
  have hP := hI.1.pp p p1 h1
  have sl := fun Q => x_sells (L := L) hI hS p1 h1 (show x < 6 by omega) ho hs Q
  have hand : and32 kk s = 0 ↔ wrs (T 0 (8 + p)) s = 0 := by rw [hkk]; exact and_sh a7 a8 hs
  have nx : ∀ (ρ : Mem) (d8 d9 : Option PV) (Q : PQ), X L 183 244 [some (xR 75), some (xI (p : Int)), some (xI (o : Int)), some (xI (aT (T 0) p : Int)), some (xI kk), some (xI l0), some (xI (x : Int)), some (xI s), d8, d9] [] ρ Q = X L 183 110 [some (xR 75), some (xI (p : Int)), some (xI (o : Int)), some (xI (aT (T 0) p : Int)), some (xI kk), some (xI l0), some (xI (x : Int)), some (xI (s + 1)), d8, d9] [] ρ Q := by
    intro ρ d8 d9 Q; rw [e_183_244, w32_id (by omega) (by omega)]
  by_cases cs : plC (T 0) p o x ∧ T 0 4 x = s
  · obtain ⟨cp, c4⟩ := id cs
    obtain ⟨q1, q2, q3⟩ := cp
    rw [c4] at q2 q3
    by_cases c1 : one (T 0) p
    · have u : stq (T 0) p o n x s e = ofE (T 0) p (T 0 5 x) (d1 (T 0) p x) (x : Int) (-6) e := by unfold stq; rw [if_pos cs, if_pos c1]
      have k0 : ¬ kk = 0 := by clear cs q3; omega
      have l01 : l0 = 1 := by
        rw [hl0]; exact bI_t (Or.inl (by clear cs q3; omega))
      subst l01
      have h5 := hS.2.2.2.2.2.2.2.2.1 x (by clear cs q3; omega)
      have prx : σ 80 x = T 0 5 x := hI.1.pr x (by clear cs q3; omega)
      have hom : σ 82 p = (aH (T 0) p : Int) := hP.ho.trans p6
      have K : σ 75 8 = T 0 0 2 := hI.1.kk
      have wl : σ 87 (2 * p) = T 0 (8 + p) 8 := hP.wl
      have wr : σ 87 (2 * p + 1) = T 0 (8 + p) 9 := hP.wr
      have b1 := dd_b hS 1 (aT (T 0) p) x
      have m1 := fun Q => x_farOf (L := L) hS hL (l := 1) (a := aT (T 0) p) (b := x) (by omega) (by clear cs q3; omega) (by clear cs q3; omega) Q
      have m1 : ∀ Q : PQ, X L 177 0 [some (xR 75), some (xI (aT (T 0) p : Int)), some (xI (x : Int)), some (xI 1), none] [] σ Q = Q (some (xI (dd (T 0) 1 (aT (T 0) p) x))) σ := m1
      obtain ⟨l, hl, hl2⟩ := bI_n (T 0 0 2 ≤ T 0 (8 + p) 8 + T 0 (8 + p) 9 + dd (T 0) 1 (aT (T 0) p) x)
      have b2 := dd_b hS l x (aH (T 0) p)
      have m2 := fun Q => x_farOf (L := L) hS hL (l := l) (a := x) (b := aH (T 0) p) hl2 (by clear cs q3; omega) (by clear cs q3; omega) Q
      have s3 : d1 (T 0) p x = dd (T 0) 1 (aT (T 0) p) x + dd (T 0) l x (aH (T 0) p) := by unfold d1; rw [hl]
      generalize hD : dd (T 0) 1 (aT (T 0) p) x = D at *
      generalize hE : dd (T 0) l x (aH (T 0) p) = E at *
      have s1 := sat_b (a := D) (b := E) (by clear cs q3; omega) (by clear cs q3; omega)
      -- the wear of the other shoe
      obtain ⟨k, w, hk1, hk2, hk3, hk4, hk5⟩ : ∃ (k : Nat) (w : Int), (if ¬ s = 1 then (0 : Int) else 1) = (k : Int) ∧ k < 2 ∧ σ 87 (2 * p + k) = w ∧ w = T 0 (8 + p) 8 + T 0 (8 + p) 9 ∧ (0 ≤ w ∧ w ≤ 1000000) := by
        unfold wrs at q2
        clear cs q3
        rcases hs with rfl | rfl
        · rw [if_pos rfl] at q2
          have := a12 q2
          exact ⟨1, T 0 (8 + p) 9, by simp, by omega, wr, by omega, by omega⟩
        · rw [if_neg (by omega)] at q2
          have := a13 q2
          exact ⟨0, T 0 (8 + p) 8, by simp, by omega, wl, by omega, by omega⟩
      have s2 := sat_b (a := w) (b := D) (by clear cs q3; omega) (by clear cs q3; omega)
      obtain ⟨ρ1, e1, hF1, hH1⟩ := x_offerM (L := L) hI hS p1 h1 (T 0 5 x) (sat D E) (x : Int) (-6) (by clear cs q3; omega) (by clear cs q3; omega) he hk
      rw [ofE_sat (d := d1 (T 0) p x) (by clear cs q3; omega), ← u] at hH1
      refine ⟨ρ1, some (xI D), some (xI (sat w D)), fun Q => ?_, hF1, hH1⟩
      have e215 : X L 183 215 [some (xR 75), some (xI (p : Int)), some (xI (o : Int)), some (xI (aT (T 0) p : Int)), some (xI kk), some (xI 1), some (xI (x : Int)), some (xI s), some (xI D), some (xI (sat w D))] [xI (l : Int), xI (aH (T 0) p : Int), xI (x : Int), xR 75, xI D, xR 75, xI (T 0 5 x), xR 75] σ Q = X L 183 110 [some (xR 75), some (xI (p : Int)), some (xI (o : Int)), some (xI (aT (T 0) p : Int)), some (xI kk), some (xI 1), some (xI (x : Int)), some (xI (s + 1)), some (xI D), some (xI (sat w D))] [] ρ1 Q := by
        rw [e_183_215]
        simp only [brI, not_true_eq_false, true_implies, false_implies, implies_true, and_true, cTag, cTgt, cLen, true_and, Int.toNat_natCast, retI_I, retR_R, retV_N, retL_L, ne_eq, Int.reduceEq, not_false_eq_true, m2, x_sum D E (by clear cs q3; omega) (by clear cs q3; omega), e1, nx]
      have e172 : X L 183 172 [some (xR 75), some (xI (p : Int)), some (xI (o : Int)), some (xI (aT (T 0) p : Int)), some (xI kk), some (xI 1), some (xI (x : Int)), some (xI s), some (xI D), d9] [xI (k : Int), xI (w32 (2 * (p : Int))), xR 87, xR 75] σ Q = X L 183 110 [some (xR 75), some (xI (p : Int)), some (xI (o : Int)), some (xI (aT (T 0) p : Int)), some (xI kk), some (xI 1), some (xI (x : Int)), some (xI (s + 1)), some (xI D), some (xI (sat w D))] [] ρ1 Q := by
        rw [e_183_172]
        simp only [brI, not_true_eq_false, true_implies, false_implies, implies_true, and_true, cTag, cTgt, cLen, true_and, Int.toNat_natCast, retI_I, retR_R, retV_N, retL_L, ne_eq, Int.reduceEq, not_false_eq_true, show w32 (w32 (2 * (p : Int)) + (k : Int)) = ((2 * p + k : Nat) : Int) by (clear cs q3; simp (disch := omega) only [w32_id]; omega), show (0 ≤ ((2 * p + k : Nat) : Int) ∧ ((2 * p + k : Nat) : Int) < 8) by (clear cs q3; omega), hk3, x_sum w D (by clear cs q3; omega) (by clear cs q3; omega), K, prx, hom, show (0 ≤ (x : Int) ∧ (x : Int) < 6) by (clear cs q3; omega), show (0 ≤ (p : Int) ∧ (p : Int) < 4) by (clear cs q3; omega), e_183_214]
        by_cases c : T 0 0 2 ≤ T 0 (8 + p) 8 + T 0 (8 + p) 9 + D
        · rw [bI_t c] at hl
          rw [if_neg (by clear cs q3; omega)]
          rw [← hl] at e215; exact e215
        · rw [bI_f c] at hl
          rw [if_pos (by clear cs q3; omega)]
          rw [← hl] at e215; exact e215
      rw [e_183_110]
      simp only [brI, not_true_eq_false, true_implies, false_implies, implies_true, and_true, cTag, cTgt, cLen, true_and, Int.toNat_natCast, retI_I, retR_R, retV_N, retL_L, ne_eq, Int.reduceEq, not_false_eq_true, sl, bI_0, m1, e_183_171]
      rw [if_neg (by clear cs q3; omega), if_neg (fun q => q (hand.mpr q2)), if_neg (fun q => q q3), if_neg k0]
      rcases hs with rfl | rfl
      · rw [if_neg (fun q => q rfl)]
        rw [show (k : Int) = 1 by rw [← hk1]; simp] at e172
        exact e172
      · rw [if_pos (by omega)]
        rw [show (k : Int) = 0 by rw [← hk1]; simp] at e172
        exact e172
    · have u : stq (T 0) p o n x s e = sec (T 0) p o x e n := by unfold stq; rw [if_pos cs, if_neg c1]
      have c6 : T 0 (8 + p) 6 = 0 := Classical.byContradiction (fun q => c1 (Or.inl q))
      have c7 : T 0 (8 + p) 7 = 0 := Classical.byContradiction (fun q => c1 (Or.inr q))
      have k0 : kk = 0 := by rw [hkk, c6, c7]; rfl
      have l00 : l0 = 0 := by
        rw [hl0]; exact bI_f (fun q => by
          rcases q with q | q
          · exact q (c6.trans c7.symm)
          · exact q.1 c6)
      subst l00
      have m1 := fun Q => x_farOf (L := L) hS hL (l := 0) (a := aT (T 0) p) (b := x) (by omega) (by clear cs q3; omega) (by clear cs q3; omega) Q
      have m1 : ∀ Q : PQ, X L 177 0 [some (xR 75), some (xI (aT (T 0) p : Int)), some (xI (x : Int)), some (xI 0), none] [] σ Q = Q (some (xI (dd (T 0) 0 (aT (T 0) p) x))) σ := m1
      obtain ⟨ρ1, e1, hF1, hH1⟩ := x_second (L := L) hI hS hL hp h1 hx ho (by rw [c4]; exact hs) he hk
      rw [← u] at hH1
      rw [c4] at e1
      refine ⟨ρ1, some (xI (dd (T 0) 0 (aT (T 0) p) x)), d9, fun Q => ?_, hF1, hH1⟩
      rw [e_183_110]
      simp only [brI, not_true_eq_false, true_implies, false_implies, implies_true, and_true, cTag, cTgt, cLen, true_and, Int.toNat_natCast, retI_I, retR_R, retV_N, retL_L, ne_eq, Int.reduceEq, not_false_eq_true, sl, bI_0, m1, e_183_232, e1, nx]
      rw [if_neg (by clear cs q3; omega), if_neg (fun q => q (hand.mpr q2)), if_neg (fun q => q q3), if_pos k0]
  · have u : stq (T 0) p o n x s e = e := if_neg cs
    rw [u]
    refine ⟨σ, d8, d9, fun Q => ?_, FrJ.rf, he⟩
    rw [e_183_110]
    simp only [brI, not_true_eq_false, true_implies, false_implies, implies_true, and_true, cTag, cTgt, cLen, true_and, Int.toNat_natCast, retI_I, retR_R, retV_N, retL_L, ne_eq, Int.reduceEq, not_false_eq_true, sl, bI_0, nx]
    rw [if_neg (by clear cs; omega)]
    by_cases c1 : and32 kk s = 0
    · rw [if_neg (fun q => q c1)]
      by_cases c2 : sel (T 0) p o x s
      · exact absurd (by
          refine ⟨⟨?_, ?_, ?_⟩, c2.2.1⟩
          · rw [c2.2.1]; clear cs c2; omega
          · rw [c2.2.1]; exact hand.mp c1
          · rw [c2.2.1]; exact c2) cs
      · rw [if_pos c2]
    · rw [if_pos c1]
end LShod
