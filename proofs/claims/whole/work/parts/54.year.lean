/-! a YEAR by draws -/
section Year
variable {B : Int} {S σ τ : Mem} {L v : Nat} {T : Ful}
def xq (s : Nat) : Nat → Nat
  | 0 => s
  | k + 1 => (75 * xq s k + 74) % 65537
def yA (S : Mem) (p : Nat) (d : Int) : Mem := if why S p d = 0 then stp S p d else S
abbrev yp (s k : Nat) : Nat := xq s (k + 1) % 4
abbrev yt (n s k : Nat) : Nat := xq s (k + 1) / 4 % n
def yS (S0 : Mem) (n s : Nat) : Nat → Mem
  | 0 => S0
  | k + 1 => yA (yA (yS S0 n s k) (yp s k) (yt n s k : Int)) (yp s k) 6
def yM (S0 : Mem) (n s : Nat) : Nat → Int
  | 0 => 0
  | k + 1 => yM S0 n s k + (if why (yS S0 n s k) (yp s k) (yt n s k : Int) = 0 then mil (yS S0 n s k) (yS S0 n s k (8 + yp s k) 2) (yt n s k : Int) else 0)
def yB (S0 : Mem) (n s : Nat) : Nat → Int
  | 0 => 0
  | k + 1 => yB S0 n s k + (if why (yA (yS S0 n s k) (yp s k) (yt n s k : Int)) (yp s k) 6 = 0 then 1 else 0)
theorem VS_yA (hS : VS B S) (hB : 0 ≤ B) {p : Nat} (hp : p < 4) {d : Int} (hd : 0 ≤ d) : VS (B + 18) (yA S p d) := by
  unfold yA
  split
  · next c => exact VS_stp hS hB hp hd c
  · exact hS.mono (by omega)
theorem VS_yS (hS : VS B S) (hB : 0 ≤ B) (n s : Nat) : ∀ k : Nat, VS (B + 36 * k) (yS S n s k) := by
  intro k
  induction k with
  | zero => exact hS.mono (by omega)
  | succ k ih =>
    have h4 : xq s (k + 1) % 4 < 4 := Nat.mod_lt _ (by omega)
    have := VS_yA (VS_yA ih (by omega) h4 (d := (yt n s k : Int)) (by omega)) (by omega) h4 (d := 6) (by omega)
    exact this.mono (by omega)
theorem yM_b (hS : VS B S) (hB : 0 ≤ B) (n s : Nat) : ∀ k : Nat, (0 ≤ yM S n s k ∧ yM S n s k ≤ 9 * k) ∧ (0 ≤ yB S n s k ∧ yB S n s k ≤ k) := by
  intro k
  induction k with
  | zero => exact ⟨⟨Int.le_refl _, Int.le_refl _⟩, ⟨Int.le_refl _, Int.le_refl _⟩⟩
  | succ k ih =>
    have hm := mil_b (VS_yS hS hB n s k) (yS S n s k (8 + yp s k) 2) (yt n s k : Int)
    simp only [yM, yB]
    refine ⟨?_, ?_⟩
    · split <;> omega
    · split <;> omega
theorem x_yA (hR : RC 21 S σ) (hS : VS B S) (hB : B ≤ 800000) {p : Nat} (hp : p < 4) {d : Int} (hd : 0 ≤ d) (hw : why S p d = 0) : ∃ τ, (∀ Q : PQ, X L 75 0 [some (xR 21), some (xI (p : Int)), some (xI d), none] [] σ Q = Q none τ) ∧ RC 21 (yA S p d) τ ∧ Fr 21 σ τ := by
  obtain ⟨τ, e, h1, h2, h3⟩ := x_take (L := L) iV21 hR hS (by omega) hp hd hw none
  refine ⟨τ, e, ?_, h3⟩
  unfold yA; rw [if_pos hw]; exact h1
def FrY (σ τ : Mem) : Prop := ∀ o, o < 21 ∨ (36 ≤ o ∧ o ≠ 44) → τ o = σ o
theorem x_takeTurn (hR : RC 21 S σ) (hS : VS B S) (hB0 : 0 ≤ B) (hB : B ≤ 700000) {p t : Nat} (hp : p < 4) (ht : t < 6) {a b : Int} (ha : σ 44 0 = a) (hb : σ 44 1 = b) (hab : 0 ≤ a ∧ a ≤ 100000 ∧ 0 ≤ b ∧ b ≤ 100000) :
    ∃ τ, (∀ Q : PQ, X L 7 0 [some (xR 44), some (xR 21), some (xI (p : Int)), some (xI (t : Int))] [] σ Q = Q none τ) ∧ RC 21 (yA (yA S p t) p 6) τ ∧ FrY σ τ ∧ τ 44 0 = a + (if why S p t = 0 then mil S (S (8 + p) 2) t else 0) ∧ τ 44 1 = b + (if why (yA S p t) p 6 = 0 then 1 else 0) := by
  have w1 := fun Q => x_whyNot (L := L) iV21 hR hS (by omega) hp (t : Int) none Q
  have hm := mil_b hS (S (8 + p) 2) t
  -- the walk
  obtain ⟨τ1, e1, hR1, hF1, q0, q1⟩ : ∃ τ1, (∀ Q : PQ, X L 7 0 [some (xR 44), some (xR 21), some (xI (p : Int)), some (xI (t : Int))] [] σ Q = X L 7 40 [some (xR 44), some (xR 21), some (xI (p : Int)), some (xI (t : Int))] [] τ1 Q) ∧ RC 21 (yA S p t) τ1 ∧ FrY σ τ1 ∧ τ1 44 0 = a + (if why S p t = 0 then mil S (S (8 + p) 2) t else 0) ∧ τ1 44 1 = b := by
    by_cases c : why S p t = 0
    · have hRu : ∀ x, RC 21 S (up σ 44 0 x) := by
        intro x; refine RC_eq (fun o ho => ?_) hR; funext j; simp only [up_rd]; rw [if_neg (by omega)]
      have hmi := rc_mil (L := L) iV21 hR hS (S (8 + p) 2) (t : Int)
      obtain ⟨τ1, e, h1, h2⟩ := x_yA (L := L) (hRu (a + mil S (S (8 + p) 2) t)) hS (by omega) hp (d := (t : Int)) (by omega) c
      refine ⟨τ1, fun Q => ?_, h1, ?_, ?_, ?_⟩
      · rw [e_7_0]
        simp only [brI, not_true_eq_false, true_implies, false_implies, implies_true, and_true, cTag, cTgt, cLen, true_and, Int.toNat_natCast, retI_I, retR_R, retV_N, retL_L, ne_eq, Int.reduceEq, not_false_eq_true, w1, c, if_false, x_personAt iV21 hp, gt_p iV21 hp, hR.p hp (f := 2) (by omega), x_roadNumber, x_milesOf iV21, hmi, ha]
        simp (disch := omega) only [w32_id, e, retV_N]
      · intro o ho; rw [h2 o (by omega)]; funext j; simp only [up_rd]; rw [if_neg (by omega)]
      · rw [h2 44 (by omega), if_pos c]; simp [up_rd]
      · rw [h2 44 (by omega)]; simp [up_rd, hb]
    · refine ⟨σ, fun Q => ?_, ?_, fun _ _ => rfl, ?_, hb⟩
      · rw [e_7_0]
        simp only [brI, not_true_eq_false, true_implies, false_implies, implies_true, and_true, cTag, cTgt, cLen, true_and, Int.toNat_natCast, retI_I, retR_R, retV_N, retL_L, ne_eq, Int.reduceEq, not_false_eq_true, w1, c, if_true]
      · unfold yA; rw [if_neg c]; exact hR
      · rw [if_neg c, ha, Int.add_zero]
  -- the purchase
  have hS1 := VS_yA hS hB0 hp (d := (t : Int)) (by omega)
  have w2 := fun Q => x_whyNot (L := L) iV21 hR1 hS1 (by omega) hp 6 none Q
  by_cases c : why (yA S p t) p 6 = 0
  · obtain ⟨τ2, e, h1, h2⟩ := x_yA (L := L) hR1 hS1 (by omega) hp (d := 6) (by omega) c
    refine ⟨up τ2 44 1 (b + 1), fun Q => ?_, ?_, ?_, ?_, ?_⟩
    · rw [e1, e_7_40]
      simp only [brI, not_true_eq_false, true_implies, false_implies, implies_true, and_true, cTag, cTgt, cLen, true_and, Int.toNat_natCast, retI_I, retR_R, retV_N, retL_L, ne_eq, Int.reduceEq, not_false_eq_true, w2, c, if_false, e, e_7_67]
      rw [h2 44 (by omega), q1, w32_id (by omega) (by omega)]
    · refine RC_eq (fun o ho => ?_) h1; funext j; simp only [up_rd]; rw [if_neg (by omega)]
    · intro o ho; rw [← hF1 o ho, ← h2 o (by omega)]; funext j; simp only [up_rd]; rw [if_neg (by omega)]
    · simp only [up_rd]; rw [if_neg (by omega), h2 44 (by omega), q0]
    · rw [if_pos c]; simp [up_rd]
  · refine ⟨τ1, fun Q => ?_, ?_, hF1, q0, ?_⟩
    · rw [e1, e_7_40]
      simp only [brI, not_true_eq_false, true_implies, false_implies, implies_true, and_true, cTag, cTgt, cLen, true_and, Int.toNat_natCast, retI_I, retR_R, retV_N, retL_L, ne_eq, Int.reduceEq, not_false_eq_true, w2, c, if_true, e_7_67]
    · have : yA (yA S p t) p 6 = yA S p t := if_neg c
      rw [this]; exact hR1
    · rw [if_neg c, q1, Int.add_zero]
def lc (S : Mem) : Nat → Int
  | 0 => 0
  | i + 1 => lc S i + (if S (8 + i) 0 = 1 ∧ lmp (S (8 + i)) (S 0 2) then 1 else 0)
theorem lc_b (S : Mem) (i : Nat) : 0 ≤ lc S i ∧ lc S i ≤ i := by
  induction i with
  | zero => exact ⟨Int.le_refl _, Int.le_refl _⟩
  | succ i ih => simp only [lc]; split <;> omega
theorem x_limping (hv : IsV v) (hR : RC v S σ) (hS : VS B S) (hB : B ≤ 1000000) (d1 d2 : Option PV) (Q : PQ) : X L 58 0 [some (xR v), d1, d2] [] σ Q = Q (some (xI (lc S 4))) σ := by
  have e2 := hR.1 2 (by omega)
  have st := lpF (n := 4) (fun i (x : Int) Q => X L 58 4 [some (xR v), some (xI x), some (xI (i : Int))] [] σ Q) (fun i => lc S i) (by
    intro i hi Q
    obtain ⟨a1, a2, a3, a4, a5, a6, a7, a8, a9, a10, a11, a12⟩ := hS.p hi
    have hb := lc_b S i
    have hk := hS.2.2.1
    have hl := fun Q => x_limps (L := L) (σ := σ) (gt_p hv hi) (S 0 2) hk.1 (by rw [hR.p hi (by omega)]; omega) (by rw [hR.p hi (by omega)]; omega) Q
    show X L 58 4 [some (xR v), some (xI (lc S i)), some (xI (i : Int))] [] σ Q = X L 58 4 [some (xR v), some (xI (lc S i + (if S (8 + i) 0 = 1 ∧ lmp (S (8 + i)) (S 0 2) then 1 else 0))), some (xI ((i + 1 : Nat) : Int))] [] σ Q
    rw [e_58_4]
    simp only [brI, not_true_eq_false, true_implies, false_implies, implies_true, and_true, cTag, cTgt, cLen, true_and, Int.toNat_natCast, retI_I, retR_R, retV_N, retL_L, ne_eq, Int.reduceEq, not_false_eq_true, gv_t hv, x_isThere hv hR hS, thr_n hi, x_personAt hv hi, gt_p hv hi, e2, hl, bI_0, RC_lmp hR hi, e_58_37, e_58_38]
    rw [if_neg (by omega)]
    by_cases c : S (8 + i) 0 = 1
    · rw [if_neg (by omega)]
      by_cases c2 : lmp (S (8 + i)) (S 0 2)
      · rw [if_neg (fun q => q c2), if_pos ⟨c, c2⟩]
        simp (disch := omega) only [w32_id]; rfl
      · rw [if_pos c2, if_neg (fun q => c2 q.2)]
        simp (disch := omega) only [w32_id]; rfl
    · rw [if_pos (by omega), if_neg (fun q => c q.1)]
      simp (disch := omega) only [w32_id]; rfl) Q
  rw [e_58_0]
  refine Eq.trans st ?_
  show X L 58 4 [some (xR v), some (xI (lc S 4)), some (xI (4 : Int))] [] σ Q = _
  rw [e_58_4, e_58_46]
  simp only [brI, Int.le_refl, if_true]
theorem xq_lt (s k : Nat) : xq s (k + 1) < 65537 := Nat.mod_lt _ (by omega)
theorem xq_b {s : Nat} (hs : s ≤ 9999) (k : Nat) : xq s k < 65537 := by
  cases k with
  | zero => show s < 65537; omega
  | succ k => exact xq_lt s k
theorem xq_i {s : Nat} (hs : s ≤ 9999) (k n : Nat) (hn : 0 < n) : Int.tmod (w32 (w32 (75 * (xq s k : Int)) + 74)) 65537 = (xq s (k + 1) : Int) ∧ Int.tmod (xq s (k + 1) : Int) 4 = (yp s k : Int) ∧ Int.tmod (w32 (Int.tdiv (xq s (k + 1) : Int) 4)) (n : Int) = (yt n s k : Int) := by
  have h0 := xq_b hs k
  have h1 := xq_lt s k
  refine ⟨?_, ?_, ?_⟩
  · rw [w32_id (x := 75 * (xq s k : Int)) (by omega) (by omega), w32_id (by omega) (by omega), Int.tmod_eq_emod_of_nonneg (by omega)]
    show _ = (((75 * xq s k + 74) % 65537 : Nat) : Int)
    omega
  · rw [Int.tmod_eq_emod_of_nonneg (by omega)]; show _ = ((xq s (k + 1) % 4 : Nat) : Int); omega
  · have e : Int.tdiv (xq s (k + 1) : Int) 4 = ((xq s (k + 1) / 4 : Nat) : Int) := by rw [Int.tdiv_eq_ediv_of_nonneg (by omega)]; omega
    rw [e, w32_id (by omega) (by omega), Int.tmod_eq_emod_of_nonneg (by omega)]
    rfl
abbrev gYear (s m w : Int) : Prop := (0 ≤ s ∧ s ≤ 9999) ∧ (1 ≤ m ∧ m ≤ 99) ∧ (0 ≤ w ∧ w ≤ 2)
def yr (T : Ful) (s m : Nat) : Mem := yS (T 0) (T 0 0 0).toNat s m
def a_year (T : Ful) (s m w : Int) : Int := if gYear s m w then (if w = 0 then yM (T 0) (T 0 0 0).toNat s.toNat m.toNat else if w = 1 then yB (T 0) (T 0 0 0).toNat s.toNat m.toNat else lc (yr T s.toNat m.toNat) 4) else -2
theorem c_year (hI : IC T σ) (hV : IV B T) (hB0 : 0 ≤ B) (hB : B ≤ 600000) (s m w : Int) : CO σ (X L 119 0 [some (xR 0), some (xI s), some (xI m), some (xI w)] [] σ) (a_year T s m w) T := by
  unfold a_year
  by_cases c : gYear s m w
  · obtain ⟨c1, c2, c3⟩ := id c
    rw [if_pos c]
    obtain ⟨s, rfl⟩ : ∃ q : Nat, s = (q : Int) := ⟨s.toNat, by omega⟩
    obtain ⟨m, rfl⟩ : ∃ q : Nat, m = (q : Int) := ⟨m.toNat, by omega⟩
    obtain ⟨n, hn⟩ : ∃ n : Nat, T 0 0 0 = (n : Int) := ⟨(T 0 0 0).toNat, by have := hV.1.1; omega⟩
    have hn6 := hV.1.1
    obtain ⟨τ0, e0, hR0, hF0⟩ := x_becomeLike (L := L) iV21 iV1 (by omega) hI.1 hV.1 hI.2.1 none
    obtain ⟨τ1, hτ1⟩ : ∃ τ1, up (up τ0 44 0 0) 44 1 0 = τ1 := ⟨_, rfl⟩
    have hR1 : RC 21 (T 0) τ1 := by
      refine RC_eq (fun o ho => ?_) hR0; funext j; rw [← hτ1]; simp only [up_rd]; rw [if_neg (by omega), if_neg (by omega)]
    have F1 : FrY σ τ1 := by
      intro o ho; rw [← hF0 o (by omega), ← hτ1]; funext j; simp only [up_rd]; rw [if_neg (by omega), if_neg (by omega)]
    obtain ⟨τ, e, hR, hF, q0, q1⟩ := lpE (n := m) (fun k (ρ : Mem) Q => X L 6 26 [some (xR 44), some (xR 21), some (xI (s : Int)), some (xI (m : Int)), some (xI (n : Int)), some (xI (xq s k : Int)), some (xI (k : Int))] [] ρ Q) (fun k ρ => RC 21 (yS (T 0) n s k) ρ ∧ FrY σ ρ ∧ ρ 44 0 = yM (T 0) n s k ∧ ρ 44 1 = yB (T 0) n s k) (by
      intro k ρ hk ⟨hR, hF, q0, q1⟩
      have hVk := VS_yS hV.1 hB0 n s k
      have hb := yM_b hV.1 hB0 n s k
      obtain ⟨x1, x2, x3⟩ := xq_i (s := s) (by omega) k n (by omega)
      have ht6 : yt n s k < 6 := by
        have : xq s (k + 1) / 4 % n < n := Nat.mod_lt _ (by omega)
        show xq s (k + 1) / 4 % n < 6
        omega
      obtain ⟨ρ1, e1, hR1, hF1, p0, p1⟩ := x_takeTurn (L := L) (p := yp s k) (t := yt n s k) hR hVk (by omega) (by omega) (Nat.mod_lt _ (by omega)) ht6 q0 q1 (by omega)
      refine ⟨ρ1, fun Q => ?_, hR1, fun o ho => by rw [hF1 o ho, hF o ho], p0, p1⟩
      show X L 6 26 [some (xR 44), some (xR 21), some (xI (s : Int)), some (xI (m : Int)), some (xI (n : Int)), some (xI (xq s k : Int)), some (xI (k : Int))] [] ρ Q = X L 6 26 [some (xR 44), some (xR 21), some (xI (s : Int)), some (xI (m : Int)), some (xI (n : Int)), some (xI (xq s (k + 1) : Int)), some (xI ((k + 1 : Nat) : Int))] [] ρ1 Q
      rw [e_6_26]
      simp only [brI, not_true_eq_false, true_implies, false_implies, implies_true, and_true, cTag, cTgt, cLen, true_and, Int.toNat_natCast, retI_I, retR_R, retV_N, retL_L, ne_eq, Int.reduceEq, not_false_eq_true, x1, x2, x3, e1]
      simp (disch := omega) only [le_f, if_false, w32_id, eq_f, not_false_eq_true, true_and]
      rfl) (a := τ1) ⟨hR1, F1, by rw [← hτ1]; simp [up_rd, yM], by rw [← hτ1]; simp [up_rd, yB]⟩
    have hVm := VS_yS hV.1 hB0 n s m
    have hlim := fun Q => x_limping (L := L) iV21 hR hVm (by omega) none none Q
    refine CO_q hI ⟨τ, fun Q => ?_, ⟨fun o ho => hF o (by omega), hR.2.2.2.2.2.2.2.2.2.2⟩⟩
    have hmax : fMax (n : Int) 2 = (n : Int) := by unfold fMax; rw [if_neg (by omega)]
    have e : ∀ Q : PQ, X L 6 26 [some (xR 44), some (xR 21), some (xI (s : Int)), some (xI (m : Int)), some (xI (n : Int)), some (xI (s : Int)), some (xI 0)] [] τ1 Q = X L 6 26 [some (xR 44), some (xR 21), some (xI (s : Int)), some (xI (m : Int)), some (xI (n : Int)), some (xI (xq s m : Int)), some (xI (m : Int))] [] τ Q := e
    have hl : ∀ Q : PQ, X L 6 0 [some (xR 44), some (xR 21), some (xI (s : Int)), some (xI (m : Int)), none, none, none] [] τ0 Q = Q none τ := by
      intro Q
      rw [e_6_0]
      simp only [brI, not_true_eq_false, true_implies, false_implies, implies_true, and_true, cTag, cTgt, cLen, true_and, Int.toNat_natCast, retI_I, retR_R, retV_N, retL_L, ne_eq, Int.reduceEq, not_false_eq_true, hR0.1 0 (by omega), hn, hmax, hτ1, e]
      rw [e_6_26, e_6_67]
      simp only [brI, not_true_eq_false, true_implies, false_implies, implies_true, and_true, cTag, cTgt, cLen, true_and, Int.toNat_natCast, retI_I, retR_R, retV_N, retL_L, ne_eq, Int.reduceEq, not_false_eq_true, Int.le_refl, if_true]
    simp only [e_119_0, e_119_33, brI, not_true_eq_false, true_implies, false_implies, implies_true, and_true, cTag, cTgt, cLen, true_and, Int.toNat_natCast, retI_I, retR_R, retV_N, retL_L, ne_eq, Int.reduceEq, not_false_eq_true, x_isWithin, bI_0, c1, c2, c3, e0, hl, if_true, if_false, and_self]
    simp only [e_119_75, e_119_90, e_119_100, brI, not_true_eq_false, true_implies, false_implies, implies_true, and_true, cTag, cTgt, cLen, true_and, Int.toNat_natCast, retI_I, retR_R, retV_N, retL_L, ne_eq, Int.reduceEq, not_false_eq_true, hlim, q0, q1, yr, hn, Int.toNat_natCast]
    by_cases w0 : w = 0
    · rw [if_neg (fun q => q w0), if_pos w0]
    · rw [if_pos w0, if_neg w0]
      by_cases w1 : w = 1
      · rw [if_neg (fun q => q w1), if_pos w1]
      · rw [if_pos w1, if_neg w1]
  · rw [if_neg c]
    refine CO_n hI (fun Q => ?_)
    simp only [e_119_0, e_119_30, brI, not_true_eq_false, true_implies, false_implies, implies_true, and_true, cTag, cTgt, cLen, true_and, Int.toNat_natCast, retI_I, retR_R, retV_N, retL_L, ne_eq, Int.reduceEq, not_false_eq_true, x_isWithin, bI_0]
    by_cases c1 : 0 ≤ s ∧ s ≤ 9999
    · by_cases c2 : 1 ≤ m ∧ m ≤ 99
      · have c3 : ¬ (0 ≤ w ∧ w ≤ 2) := fun q => c ⟨c1, c2, q⟩
        simp only [c1, c2, c3, brI, not_true_eq_false, true_implies, false_implies, implies_true, and_true, cTag, cTgt, cLen, true_and, Int.toNat_natCast, retI_I, retR_R, retV_N, retL_L, ne_eq, Int.reduceEq, not_false_eq_true, if_true, if_false, and_self]
      · simp only [c1, c2, brI, not_true_eq_false, true_implies, false_implies, implies_true, and_true, cTag, cTgt, cLen, true_and, Int.toNat_natCast, retI_I, retR_R, retV_N, retL_L, ne_eq, Int.reduceEq, not_false_eq_true, if_true, if_false, and_self]
    · simp only [c1, brI, not_true_eq_false, true_implies, false_implies, implies_true, and_true, cTag, cTgt, cLen, true_and, Int.toNat_natCast, retI_I, retR_R, retV_N, retL_L, ne_eq, Int.reduceEq, not_false_eq_true, if_true, if_false]
/-! the Model's YEAR -/
theorem why_no {p : Nat} {d : Int} (h : S (8 + p) 0 = 0) : why S p d = 1 := if_pos h
theorem why_w {p t : Nat} (h : S (8 + p) 0 = 1) (ht : t < 6) : why S p (t : Int) = whyW S p (t : Int) := by
  unfold why; rw [if_neg (by omega), if_neg (by omega), if_pos (by omega)]
theorem why_b {p : Nat} (h : S (8 + p) 0 = 1) : why S p 6 = whyB S p := by
  unfold why; rw [if_neg (by omega), if_neg (by omega), if_neg (by omega)]
theorem yA_fl (S : Mem) (p q : Nat) (d : Int) (hq : q < 4) : yA S p d (8 + q) 0 = S (8 + q) 0 := by
  unfold yA; split
  · exact stp_fl _ _ _ _ hq
  · rfl
theorem x_buyY {S1 : Mem} {τ1 : Mem} (hS1 : VS B S1) (hM1 : RM (vN τ1) S1) {p : Nat} (hp : p < 4) (h1 : S1 (8 + p) 0 = 1) (t g1 g2 g3 x a b k : Int) (hb : 0 ≤ b ∧ b ≤ 100000) : ∃ τ, (∀ Q : PQ, X L 205 137 [some (xR 75), some (xI g1), some (xI g2), some (xI g3), some (xI x), some (xI a), some (xI b), some (xI k), some (xI (p : Int)), some (xI t)] [] τ1 Q = X L 205 155 [some (xR 75), some (xI g1), some (xI g2), some (xI g3), some (xI x), some (xI a), some (xI (b + (if why S1 p 6 = 0 then 1 else 0))), some (xI k), some (xI (p : Int)), some (xI t)] [] τ Q) ∧ RM (vN τ) (yA S1 p 6) ∧ FrN τ1 τ := by
  have hw2 := why_b h1
  have w2 := fun Q => x_whyNotBuy (L := L) hS1 hM1 hp h1 none none Q
  by_cases c : why S1 p 6 = 0
  · obtain ⟨τ, e, h2, h3⟩ := x_buyM (L := L) hS1 hM1 hp h1 (by rw [← hw2]; exact c)
    refine ⟨τ, fun Q => ?_, ?_, h3⟩
    · rw [e_205_137]
      simp only [brI, not_true_eq_false, true_implies, false_implies, implies_true, and_true, cTag, cTgt, cLen, true_and, Int.toNat_natCast, retI_I, retR_R, retV_N, retL_L, ne_eq, Int.reduceEq, not_false_eq_true, w2, ← hw2, c, if_true, if_false, e]
      rw [w32_id (by omega) (by omega)]
    · have : yA S1 p 6 = stB S1 p := by
        show (if why S1 p 6 = 0 then stp S1 p 6 else S1) = _
        rw [if_pos c]; unfold stp; rw [if_neg (by omega), if_pos rfl]
      rw [this]; exact h2
  · refine ⟨τ1, fun Q => ?_, ?_, fun _ _ => rfl⟩
    · rw [e_205_137]
      simp only [brI, not_true_eq_false, true_implies, false_implies, implies_true, and_true, cTag, cTgt, cLen, true_and, Int.toNat_natCast, retI_I, retR_R, retV_N, retL_L, ne_eq, Int.reduceEq, not_false_eq_true, w2, ← hw2, c, if_true, if_false, Int.add_zero]
    · have : yA S1 p 6 = S1 := if_neg c
      rw [this]; exact hM1
theorem x_limpingM (hM : RM (vN σ) S) (hS : VS B S) (hB : B ≤ 1000000) (g1 g2 g3 x a b : Int) (d9 : Option PV) (Q : PQ) : X L 205 167 [some (xR 75), some (xI g1), some (xI g2), some (xI g3), some (xI x), some (xI a), some (xI b), some (xI 0), some (xI 0), d9] [] σ Q = X L 205 207 [some (xR 75), some (xI g1), some (xI g2), some (xI g3), some (xI x), some (xI a), some (xI b), some (xI (lc S 4)), some (xI 4), d9] [] σ Q := by
  have h9 : σ 75 9 = thb S := hM.th
  have st := lpF (n := 4) (fun i (y : Int) Q => X L 205 167 [some (xR 75), some (xI g1), some (xI g2), some (xI g3), some (xI x), some (xI a), some (xI b), some (xI y), some (xI (i : Int)), d9] [] σ Q) (fun i => lc S i) (by
    intro i hi Q
    have h01 := (hS.p hi).1
    have hb := lc_b S i
    show X L 205 167 [some (xR 75), some (xI g1), some (xI g2), some (xI g3), some (xI x), some (xI a), some (xI b), some (xI (lc S i)), some (xI (i : Int)), d9] [] σ Q = X L 205 167 [some (xR 75), some (xI g1), some (xI g2), some (xI g3), some (xI x), some (xI a), some (xI b), some (xI (lc S i + (if S (8 + i) 0 = 1 ∧ lmp (S (8 + i)) (S 0 2) then 1 else 0))), some (xI ((i + 1 : Nat) : Int)), d9] [] σ Q
    rw [e_205_167]
    simp only [brI, not_true_eq_false, true_implies, false_implies, implies_true, and_true, cTag, cTgt, cLen, true_and, Int.toNat_natCast, retI_I, retR_R, retV_N, retL_L, ne_eq, Int.reduceEq, not_false_eq_true, x_isThereM hS h9, thr_n hi, e_205_197, e_205_198]
    rw [if_neg (by omega)]
    by_cases c : S (8 + i) 0 = 1
    · simp only [x_limpsNow hS hB hM hi c, retI_I, bI_0]
      rw [if_neg (by omega)]
      by_cases c2 : lmp (S (8 + i)) (S 0 2)
      · rw [if_neg (fun q => q c2), if_pos ⟨c, c2⟩]
        simp (disch := omega) only [w32_id]; rfl
      · rw [if_pos c2, if_neg (fun q => c2 q.2)]
        simp (disch := omega) only [w32_id]; rfl
    · rw [if_pos (by omega), if_neg (fun q => c q.1)]
      simp (disch := omega) only [w32_id]; rfl) Q
  refine Eq.trans st ?_
  show X L 205 167 [some (xR 75), some (xI g1), some (xI g2), some (xI g3), some (xI x), some (xI a), some (xI b), some (xI (lc S 4)), some (xI (4 : Int)), d9] [] σ Q = _
  rw [e_205_167]
  simp only [brI, Int.le_refl, if_true]
theorem m_year (hI : IM T σ) (hV : IV B T) (hB0 : 0 ≤ B) (hB : B ≤ 600000) (s m w : Int) : MO σ (X L 205 0 [some (xR 75), some (xI s), some (xI m), some (xI w), none, none, none, none, none, none] [] σ) (a_year T s m w) T := by
  unfold a_year
  by_cases c : gYear s m w
  · obtain ⟨c1, c2, c3⟩ := id c
    rw [if_pos c]
    obtain ⟨s, rfl⟩ : ∃ q : Nat, s = (q : Int) := ⟨s.toNat, by omega⟩
    obtain ⟨m, rfl⟩ : ∃ q : Nat, m = (q : Int) := ⟨m.toNat, by omega⟩
    obtain ⟨n, hn⟩ : ∃ n : Nat, T 0 0 0 = (n : Int) := ⟨(T 0 0 0).toNat, by have := hV.1.1; omega⟩
    have hn6 := hV.1.1
    obtain ⟨τ0, e0, hM0, hF0⟩ := x_asNow (L := L) hI.1
    obtain ⟨⟨τ, d8, d9⟩, e, hM, hF⟩ := lpE (n := m) (fun k (a : Mem × Option PV × Option PV) Q => X L 205 49 [some (xR 75), some (xI (s : Int)), some (xI (m : Int)), some (xI w), some (xI (xq s k : Int)), some (xI (yM (T 0) n s k)), some (xI (yB (T 0) n s k)), some (xI (k : Int)), a.2.1, a.2.2] [] a.1 Q) (fun k a => RM (vN a.1) (yS (T 0) n s k) ∧ FrN σ a.1) (by
      intro k ⟨ρ, d8, d9⟩ hk ⟨hM, hF⟩
      have hM : RM (vN ρ) (yS (T 0) n s k) := hM
      have hF : FrN σ ρ := hF
      have hVk := VS_yS hV.1 hB0 n s k
      have hb := yM_b hV.1 hB0 n s k
      obtain ⟨x1, x2, x3⟩ := xq_i (s := s) (by omega) k n (by omega)
      have hp4 : yp s k < 4 := Nat.mod_lt _ (by omega)
      have ht6 : yt n s k < 6 := by
        have : xq s (k + 1) / 4 % n < n := Nat.mod_lt _ (by omega)
        show xq s (k + 1) / 4 % n < 6
        omega
      have h0 : ρ 75 0 = (n : Int) := by rw [hF 75 (by omega), hI.tw, hn]
      have h9 : ρ 75 9 = thb (yS (T 0) n s k) := hM.th
      have h01 := (hVk.p hp4).1
      have hm9 := mil_b hVk (yS (T 0) n s k (8 + yp s k) 2) (yt n s k : Int)
      have nx : ∀ (ρ1 : Mem) (a b : Int) (Q : PQ), X L 205 155 [some (xR 75), some (xI (s : Int)), some (xI (m : Int)), some (xI w), some (xI (xq s (k + 1) : Int)), some (xI a), some (xI b), some (xI (k : Int)), some (xI (yp s k : Int)), some (xI (yt n s k : Int))] [] ρ1 Q = X L 205 49 [some (xR 75), some (xI (s : Int)), some (xI (m : Int)), some (xI w), some (xI (xq s (k + 1) : Int)), some (xI a), some (xI b), some (xI ((k + 1 : Nat) : Int)), some (xI (yp s k : Int)), some (xI (yt n s k : Int))] [] ρ1 Q := by
        intro ρ1 a b Q; rw [e_205_155, w32_id (by omega) (by omega)]; rfl
      have en : (n : Int) ≠ 0 := by omega
      by_cases c0 : yS (T 0) n s k (8 + yp s k) 0 = 0
      · have u1 : yA (yS (T 0) n s k) (yp s k) (yt n s k : Int) = yS (T 0) n s k := if_neg (by rw [why_no c0]; omega)
        have u2 : yS (T 0) n s (k + 1) = yS (T 0) n s k := by
          show yA (yA (yS (T 0) n s k) (yp s k) (yt n s k : Int)) (yp s k) 6 = _
          rw [u1]; exact if_neg (by rw [why_no c0]; omega)
        have u3 : yM (T 0) n s (k + 1) = yM (T 0) n s k := by simp only [yM]; rw [why_no c0, if_neg (by omega), Int.add_zero]
        have u4 : yB (T 0) n s (k + 1) = yB (T 0) n s k := by simp only [yB]; rw [u1, why_no c0, if_neg (by omega), Int.add_zero]
        refine ⟨(ρ, some (xI (yp s k : Int)), some (xI (yt n s k : Int))), fun Q => ?_, by rw [u2]; exact hM, hF⟩
        show X L 205 49 [some (xR 75), some (xI (s : Int)), some (xI (m : Int)), some (xI w), some (xI (xq s k : Int)), some (xI (yM (T 0) n s k)), some (xI (yB (T 0) n s k)), some (xI (k : Int)), d8, d9] [] ρ Q = X L 205 49 [some (xR 75), some (xI (s : Int)), some (xI (m : Int)), some (xI w), some (xI (xq s (k + 1) : Int)), some (xI (yM (T 0) n s (k + 1))), some (xI (yB (T 0) n s (k + 1))), some (xI ((k + 1 : Nat) : Int)), some (xI (yp s k : Int)), some (xI (yt n s k : Int))] [] ρ Q
        rw [u3, u4, ← nx, e_205_49]
        simp only [brI, not_true_eq_false, true_implies, false_implies, implies_true, and_true, cTag, cTgt, cLen, true_and, Int.toNat_natCast, retI_I, retR_R, retV_N, retL_L, ne_eq, Int.reduceEq, not_false_eq_true, x1, h0, x2, x3, x_isThereM hVk h9, thr_n hp4, c0, if_true]
        rw [if_neg (by omega)]
        simp only [true_and, show ¬ (n : Int) = 0 by omega, not_false_eq_true]
      · have c1' : yS (T 0) n s k (8 + yp s k) 0 = 1 := by omega
        have hw := why_w (S := yS (T 0) n s k) c1' ht6
        have w1 := fun Q => x_whyNotWalk (L := L) (t := yt n s k) hVk (by omega) hM hp4 c1' ht6 Q
        have hS1 := VS_yA hVk (by omega) hp4 (d := (yt n s k : Int)) (by omega)
        have h1' : yA (yS (T 0) n s k) (yp s k) (yt n s k : Int) (8 + yp s k) 0 = 1 := by rw [yA_fl _ _ _ _ hp4]; exact c1'
        obtain ⟨ρ1, hρ1, hMr, hFr⟩ : ∃ ρ1, (∀ Q : PQ, X L 205 49 [some (xR 75), some (xI (s : Int)), some (xI (m : Int)), some (xI w), some (xI (xq s k : Int)), some (xI (yM (T 0) n s k)), some (xI (yB (T 0) n s k)), some (xI (k : Int)), d8, d9] [] ρ Q = X L 205 137 [some (xR 75), some (xI (s : Int)), some (xI (m : Int)), some (xI w), some (xI (xq s (k + 1) : Int)), some (xI (yM (T 0) n s (k + 1))), some (xI (yB (T 0) n s k)), some (xI (k : Int)), some (xI (yp s k : Int)), some (xI (yt n s k : Int))] [] ρ1 Q) ∧ RM (vN ρ1) (yA (yS (T 0) n s k) (yp s k) (yt n s k : Int)) ∧ FrN σ ρ1 := by
          simp only [yM]
          by_cases c : why (yS (T 0) n s k) (yp s k) (yt n s k : Int) = 0
          · have hm : ¬ mil (yS (T 0) n s k) (yS (T 0) n s k (8 + yp s k) 2) (yt n s k : Int) = 0 := by
              intro q; rw [hw] at c; unfold whyW at c; rw [if_pos q] at c; omega
            obtain ⟨ρ1, e, h2, h3⟩ := x_walkM (L := L) hVk (by omega) hM hp4 c1' hm
            have ha := VP_at hVk hp4
            obtain ⟨pl, hpl⟩ : ∃ a : Nat, yS (T 0) n s k (8 + yp s k) 2 = (a : Int) := ⟨(yS (T 0) n s k (8 + yp s k) 2).toNat, by omega⟩
            have s1 : ρ 92 (yp s k) = (pl : Int) := (hM.pp _ hp4 c1').pl.trans hpl
            have s6 : ρ 76 (6 * pl + yt n s k) = mil (yS (T 0) n s k) pl (yt n s k : Int) := by rw [mil_at (by omega) ht6]; exact hM.mi _ (by omega)
            rw [hpl] at hm9 ⊢
            refine ⟨ρ1, fun Q => ?_, ?_, hF.tr h3⟩
            · rw [if_pos c, e_205_49]
              simp only [brI, not_true_eq_false, true_implies, false_implies, implies_true, and_true, cTag, cTgt, cLen, true_and, Int.toNat_natCast, retI_I, retR_R, retV_N, retL_L, ne_eq, Int.reduceEq, not_false_eq_true, x1, h0, x2, x3, x_isThereM hVk h9, thr_n hp4, w1, ← hw, c, c0, if_false, s1]
              rw [if_neg (by omega)]
              simp (disch := omega) only [w32_id, inb, true_and, Int.toNat_add, Int.toNat_mul, Int.toNat_natCast, Int.reduceToNat, s6, e, retV_N, show ¬ (n : Int) = 0 by omega, not_false_eq_true]
            · have : yA (yS (T 0) n s k) (yp s k) (yt n s k : Int) = stW (yS (T 0) n s k) (yp s k) (yt n s k) := by
                show (if why (yS (T 0) n s k) (yp s k) (yt n s k : Int) = 0 then stp (yS (T 0) n s k) (yp s k) (yt n s k : Int) else yS (T 0) n s k) = _
                rw [if_pos c]; unfold stp; rw [if_pos (by omega), Int.toNat_natCast]
              rw [this]; exact h2
          · refine ⟨ρ, fun Q => ?_, ?_, hF⟩
            · rw [if_neg c, Int.add_zero, e_205_49]
              simp only [brI, not_true_eq_false, true_implies, false_implies, implies_true, and_true, cTag, cTgt, cLen, true_and, Int.toNat_natCast, retI_I, retR_R, retV_N, retL_L, ne_eq, Int.reduceEq, not_false_eq_true, x1, h0, x2, x3, x_isThereM hVk h9, thr_n hp4, w1, ← hw, c, c0, if_false, if_true]
              rw [if_neg (by omega)]
              simp only [true_and, show ¬ (n : Int) = 0 by omega, not_false_eq_true]
            · have : yA (yS (T 0) n s k) (yp s k) (yt n s k : Int) = yS (T 0) n s k := if_neg c
              rw [this]; exact hM
        obtain ⟨ρ2, e2, hM2, hF2⟩ := x_buyY (L := L) hS1 hMr hp4 h1' (yt n s k : Int) (s : Int) (m : Int) w (xq s (k + 1) : Int) (yM (T 0) n s (k + 1)) (yB (T 0) n s k) (k : Int) (by omega)
        refine ⟨(ρ2, some (xI (yp s k : Int)), some (xI (yt n s k : Int))), fun Q => ?_, hM2, hFr.tr hF2⟩
        show X L 205 49 [some (xR 75), some (xI (s : Int)), some (xI (m : Int)), some (xI w), some (xI (xq s k : Int)), some (xI (yM (T 0) n s k)), some (xI (yB (T 0) n s k)), some (xI (k : Int)), d8, d9] [] ρ Q = X L 205 49 [some (xR 75), some (xI (s : Int)), some (xI (m : Int)), some (xI w), some (xI (xq s (k + 1) : Int)), some (xI (yM (T 0) n s (k + 1))), some (xI (yB (T 0) n s (k + 1))), some (xI ((k + 1 : Nat) : Int)), some (xI (yp s k : Int)), some (xI (yt n s k : Int))] [] ρ2 Q
        rw [hρ1, e2, nx]
        rfl) (a := (τ0, none, none)) ⟨hM0, hF0⟩
    have hM : RM (vN τ) (yS (T 0) n s m) := hM
    have hF : FrN σ τ := hF
    have hVm := VS_yS hV.1 hB0 n s m
    have e : ∀ Q : PQ, X L 205 49 [some (xR 75), some (xI (s : Int)), some (xI (m : Int)), some (xI w), some (xI (s : Int)), some (xI 0), some (xI 0), some (xI 0), none, none] [] τ0 Q = X L 205 49 [some (xR 75), some (xI (s : Int)), some (xI (m : Int)), some (xI w), some (xI (xq s m : Int)), some (xI (yM (T 0) n s m)), some (xI (yB (T 0) n s m)), some (xI (m : Int)), d8, d9] [] τ Q := e
    refine MO_q hI ⟨τ, fun Q => ?_, FrM_N hF⟩
    simp only [e_205_0, e_205_33, brI, not_true_eq_false, true_implies, false_implies, implies_true, and_true, cTag, cTgt, cLen, true_and, Int.toNat_natCast, retI_I, retR_R, retV_N, retL_L, ne_eq, Int.reduceEq, not_false_eq_true, x_in, bI_0, c1, c2, c3, e0, e, if_true, if_false, and_self]
    rw [e_205_49]
    simp only [brI, not_true_eq_false, true_implies, false_implies, implies_true, and_true, cTag, cTgt, cLen, true_and, Int.toNat_natCast, retI_I, retR_R, retV_N, retL_L, ne_eq, Int.reduceEq, not_false_eq_true, Int.le_refl, if_true, e_205_161, x_limpingM hM hVm (show B + 36 * (m : Int) ≤ 1000000 by omega)]
    simp only [e_205_207, e_205_216, e_205_226, e_205_228, brI, not_true_eq_false, true_implies, false_implies, implies_true, and_true, cTag, cTgt, cLen, true_and, Int.toNat_natCast, retI_I, retR_R, retV_N, retL_L, ne_eq, Int.reduceEq, not_false_eq_true, yr, hn, Int.toNat_natCast]
    by_cases w0 : w = 0
    · rw [if_neg (fun q => q w0), if_pos w0]
    · rw [if_pos w0, if_neg w0]
      by_cases w1 : w = 1
      · rw [if_neg (fun q => q w1), if_pos w1]
      · rw [if_pos w1, if_neg w1]
  · rw [if_neg c]
    refine MO_n hI (fun Q => ?_)
    simp only [e_205_0, e_205_30, brI, not_true_eq_false, true_implies, false_implies, implies_true, and_true, cTag, cTgt, cLen, true_and, Int.toNat_natCast, retI_I, retR_R, retV_N, retL_L, ne_eq, Int.reduceEq, not_false_eq_true, x_in, bI_0]
    by_cases c1 : 0 ≤ s ∧ s ≤ 9999
    · by_cases c2 : 1 ≤ m ∧ m ≤ 99
      · have c3 : ¬ (0 ≤ w ∧ w ≤ 2) := fun q => c ⟨c1, c2, q⟩
        simp only [c1, c2, c3, brI, not_true_eq_false, true_implies, false_implies, implies_true, and_true, cTag, cTgt, cLen, true_and, Int.toNat_natCast, retI_I, retR_R, retV_N, retL_L, ne_eq, Int.reduceEq, not_false_eq_true, if_true, if_false, and_self]
      · simp only [c1, c2, brI, not_true_eq_false, true_implies, false_implies, implies_true, and_true, cTag, cTgt, cLen, true_and, Int.toNat_natCast, retI_I, retR_R, retV_N, retL_L, ne_eq, Int.reduceEq, not_false_eq_true, if_true, if_false, and_self]
    · simp only [c1, brI, not_true_eq_false, true_implies, false_implies, implies_true, and_true, cTag, cTgt, cLen, true_and, Int.toNat_natCast, retI_I, retR_R, retV_N, retL_L, ne_eq, Int.reduceEq, not_false_eq_true, if_true, if_false]
end Year
