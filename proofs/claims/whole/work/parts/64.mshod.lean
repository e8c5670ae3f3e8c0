/-! SHOD, asked -/
section MShod
variable {B : Int} {S σ τ : Mem} {L v : Nat} {T : Ful}
def a_shod (T : Ful) (p i : Int) : Int := if ¬ thr (T 0) p = 0 then (if 0 ≤ i ∧ i ≤ 3 then shd (T 0) p.toNat 63 (T 0 0 0).toNat i.toNat else -2) else -1
theorem sel_cg {S : Mem} {p o o' x : Nat} {s : Int} (h : o.testBit x = o'.testBit x) : sel S p o x s ↔ sel S p o' x s := by
  constructor
  · intro ⟨a, b⟩; exact ⟨h ▸ a, b⟩
  · intro ⟨a, b⟩; exact ⟨h.symm ▸ a, b⟩
theorem ite_cg {α : Type} {a b : Prop} [Decidable a] [Decidable b] {x y x' y' : α} (h : a ↔ b) (h1 : x = x') (h2 : y = y') : (if a then x else y) = (if b then x' else y') := by
  subst h1; subst h2
  by_cases c : a
  · rw [if_pos c, if_pos (h.mp c)]
  · rw [if_neg c, if_neg (fun q => c (h.mpr q))]
theorem sec_cg {S : Mem} {p o o' x n : Nat} {e : Er} (h : ∀ x, x < n → o.testBit x = o'.testBit x) : ∀ y, y ≤ n → sec S p o x e y = sec S p o' x e y := by
  intro y
  induction y with
  | zero => intro _; rfl
  | succ y ih =>
    intro hy
    simp only [sec]
    rw [ih (by omega)]
    exact ite_cg (sel_cg (h y (by omega))) rfl rfl
theorem plE_cg {S : Mem} {p o o' n : Nat} (h : ∀ x, x < n → o.testBit x = o'.testBit x) : ∀ x, x ≤ n → plE S p o n x = plE S p o' n x := by
  intro x
  induction x with
  | zero => intro _; rfl
  | succ x ih =>
    intro hx
    simp only [plE]
    rw [ih (by omega), sec_cg h n (Nat.le_refl _)]
    refine ite_cg ?_ rfl rfl
    constructor
    · intro ⟨a, b, c⟩; exact ⟨a, b, (sel_cg (h x (by omega))).mp c⟩
    · intro ⟨a, b, c⟩; exact ⟨a, b, (sel_cg (h x (by omega))).mpr c⟩
theorem shd_cg {S : Mem} {p o o' n : Nat} (h : ∀ x, x < n → o.testBit x = o'.testBit x) : shd S p o n = shd S p o' n := by
  unfold shd
  rw [plE_cg h n (Nat.le_refl _)]
theorem all_63 {n : Nat} (hn : n ≤ 6) : ∀ x, x < n → (2 ^ n - 1).testBit x = (63 : Nat).testBit x := by
  intro x hx
  rcases (show n = 0 ∨ n = 1 ∨ n = 2 ∨ n = 3 ∨ n = 4 ∨ n = 5 ∨ n = 6 by omega) with rfl | rfl | rfl | rfl | rfl | rfl | rfl <;> (revert x; decide)
theorem x_allTowns (hR : RC 1 S σ) (hS : VS B S) {n : Nat} (hn : (n : Int) = S 0 0) (Q : PQ) : X L 52 0 [some (xR 1)] [] σ Q = Q (some (xI ((2 ^ n - 1 : Nat) : Int))) σ := by
  have hn6 := hS.1
  rw [e_52_0]
  simp only [brI, not_true_eq_false, true_implies, false_implies, implies_true, and_true, cTag, cTgt, cLen, true_and, Int.toNat_natCast, retI_I, retR_R, retV_N, retL_L, ne_eq, Int.reduceEq, not_false_eq_true, hR.1 0 (by omega), ← hn]
  have h1 : 1 ≤ 2 ^ n := Nat.one_le_two_pow
  have h2 : 2 ^ n ≤ 2 ^ 6 := Nat.pow_le_pow_right (by omega) (by omega)
  have h2 : 2 ^ n ≤ 64 := h2
  rw [shl32_n (by omega)]
  generalize 2 ^ n = z at *
  rw [w32_id (by omega) (by omega), show ((z : Nat) : Int) - 1 = ((z - 1 : Nat) : Int) by omega]
theorem c_shod (hI : IC T σ) (hV : IV B T) (hB : B ≤ 1000000) (p i : Int) : CO σ (X L 106 0 [some (xR 0), some (xI p), some (xI i)] [] σ) (a_shod T p i) T := by
  unfold a_shod
  by_cases c : thr (T 0) p = 0
  · rw [if_neg (fun q => q c)]
    refine CO_n hI (fun Q => ?_)
    simp only [e_106_0, brI, not_true_eq_false, true_implies, false_implies, implies_true, and_true, cTag, cTgt, cLen, true_and, Int.toNat_natCast, retI_I, retR_R, retV_N, retL_L, ne_eq, Int.reduceEq, not_false_eq_true, x_isThere iV1 hI.1 hV.1, c, if_true, if_false]
  · rw [if_pos c]
    obtain ⟨q, hq, rfl, -⟩ := thr_in (B := B) c
    by_cases ci : 0 ≤ i ∧ i ≤ 3
    · rw [if_pos ci]
      obtain ⟨i, rfl⟩ : ∃ a : Nat, i = (a : Int) := ⟨i.toNat, by omega⟩
      simp only [Int.toNat_natCast]
      obtain ⟨n, hn, hn2, hn6⟩ := tn hV
      have hnn : (T 0 0 0).toNat = n := by omega
      have h2 : 2 ^ n ≤ 2 ^ 6 := Nat.pow_le_pow_right (by omega) (by omega)
      have h2 : 2 ^ n ≤ 64 := h2
      rw [hnn, ← shd_cg (all_63 hn6)]
      obtain ⟨τ, e, hF, hQ, hI1, hL⟩ := c_surv (L := L) hI hV
      obtain ⟨ρ, e1, hE, hH⟩ := x_plan (L := L) hI1.1 hV.1 hB hL (psv hV.1 hq hn) (o := 2 ^ n - 1) (by omega)
      have h31 : ρ 31 0 = 0 := by rw [hE.1 31 (by omega)]; exact hQ.2
      refine CO_q hI ⟨ρ, fun Q => ?_, hQ.tr ⟨fun o ho => hE.1 o (by omega), h31⟩⟩
      simp only [e_106_0, e_106_13, e_106_25, brI, not_true_eq_false, true_implies, false_implies, implies_true, and_true, cTag, cTgt, cLen, true_and, Int.toNat_natCast, retI_I, retR_R, retV_N, retL_L, ne_eq, Int.reduceEq, not_false_eq_true, x_isThere iV1 hI.1 hV.1, x_isWithin, bI_0, c, ci, e, x_personAt iV1 hq, x_allTowns hI1.1 hV.1 hn, e1, if_true, if_false, and_self, e_106_92, e_106_100, e_106_108, e_106_116]
      rcases (show i = 0 ∨ i = 1 ∨ i = 2 ∨ i = 3 by omega) with rfl | rfl | rfl | rfl
      · rw [hH 0 (by omega)]; simp
      · rw [hH 1 (by omega)]; simp
      · rw [hH 2 (by omega)]; simp
      · rw [hH 3 (by omega)]; simp
    · rw [if_neg ci]
      refine CO_n hI (fun Q => ?_)
      simp only [e_106_0, e_106_13, brI, not_true_eq_false, true_implies, false_implies, implies_true, and_true, cTag, cTgt, cLen, true_and, Int.toNat_natCast, retI_I, retR_R, retV_N, retL_L, ne_eq, Int.reduceEq, not_false_eq_true, x_isThere iV1 hI.1 hV.1, x_isWithin, bI_0, c, ci, if_true, if_false]
/-! the Model's -/
def HM (σ : Mem) (e : Er) : Prop := ∀ j, j < 4 → σ 75 (34 + j) = e j
def FrJ (σ τ : Mem) : Prop := (∀ o, o ≠ 75 → τ o = σ o) ∧ ∀ j, j < 34 ∨ 38 ≤ j → τ 75 j = σ 75 j
theorem FrJ.tr {a b c : Mem} (h1 : FrJ a b) (h2 : FrJ b c) : FrJ a c := ⟨fun o h => (h2.1 o h).trans (h1.1 o h), fun j h => (h2.2 j h).trans (h1.2 j h)⟩
theorem FrJ.rf : FrJ σ σ := ⟨fun _ _ => rfl, fun _ _ => rfl⟩
theorem FrJ.m (h : FrJ σ τ) : FrM σ τ := ⟨fun o ho => h.1 o (by omega), fun j hj => h.2 j (by omega)⟩
theorem LdF_J (hL : LdF S σ) (hF : FrJ σ τ) : LdF S τ := fun l a b h1 h2 h3 => by rw [hF.1 98 (by omega)]; exact hL l a b h1 h2 h3
theorem x_offerM (hI : IM T σ) (hS : VS B (T 0)) {p : Nat} (hp : p < 4) (h1 : T 0 (8 + p) 0 = 1) (pr d f s : Int) (hprb : 0 ≤ pr ∧ pr ≤ 40) (hd : 0 ≤ d ∧ d ≤ 1000000) {e : Er} (he : HM σ e) (hk : okE e) : ∃ τ, (∀ Q : PQ, X L 181 0 [some (xR 75), some (xI pr), some (xI d), some (xI f), some (xI s), some (xI (p : Int)), none, none] [] σ Q = Q none τ) ∧ FrJ σ τ ∧ HM τ (ofE (T 0) p pr d f s e) := by
  have e1 : σ 75 7 = T 0 0 1 := hI.1.tl
  have e5 : σ 84 p = T 0 (8 + p) 5 := (hI.1.pp p hp h1).pu
  have e0 : σ 75 34 = e 0 := he 0 (by omega)
  have ht := tol_b hS (d := d) hd
  have go : ∀ (z : Int) (τ : Mem) (Q : PQ), X L 181 77 [some (xR 75), some (xI pr), some (xI d), some (xI f), some (xI s), some (xI (p : Int)), some (xI z), some (xI (pr + T 0 0 1 * d))] [] τ Q = Q none τ := by
    intro z τ Q; rw [e_181_77]
  have hd0 : ∀ Q : PQ, X L 181 0 [some (xR 75), some (xI pr), some (xI d), some (xI f), some (xI s), some (xI (p : Int)), none, none] [] σ Q = X L 181 22 [some (xR 75), some (xI pr), some (xI d), some (xI f), some (xI s), some (xI (p : Int)), none, none] [xI (bI (d < 1000000 ∧ pr ≤ T 0 (8 + p) 5))] σ Q := by
    intro Q
    rw [e_181_0]
    simp only [brI, not_true_eq_false, true_implies, false_implies, implies_true, and_true, cTag, cTgt, cLen, true_and, Int.toNat_natCast, retI_I, retR_R, retV_N, retL_L, ne_eq, Int.reduceEq, not_false_eq_true, e5, show (0 ≤ (p : Int) ∧ (p : Int) < 4) by omega, e_181_21]
    by_cases c1 : 1000000 ≤ d
    · rw [if_pos c1, bI_f (by omega)]
    · rw [if_neg c1]
      by_cases c2 : T 0 (8 + p) 5 < pr
      · rw [if_pos c2, bI_f (by omega)]
      · rw [if_neg c2, bI_t (by omega)]
  by_cases c : ofC (T 0) p pr d e
  · obtain ⟨c1, c2, c3⟩ := id c
    have hof : ofE (T 0) p pr d f s e = (fun j => if j = 0 then pr + T 0 0 1 * d else if j = 1 then d else if j = 2 then f else s) := if_pos c
    obtain ⟨τ, hτ⟩ : ∃ τ, up (up (up (up σ 75 34 (pr + T 0 0 1 * d)) 75 35 d) 75 36 f) 75 37 s = τ := ⟨_, rfl⟩
    refine ⟨τ, fun Q => ?_, ⟨fun o ho => ?_, fun j hj => ?_⟩, ?_⟩
    · rw [hd0, bI_t ⟨c1, c2⟩, e_181_22]
      simp only [brI, not_true_eq_false, true_implies, false_implies, implies_true, and_true, cTag, cTgt, cLen, true_and, Int.toNat_natCast, retI_I, retR_R, retV_N, retL_L, ne_eq, Int.reduceEq, not_false_eq_true, e0, e1, w32_id (x := T 0 0 1 * d) (by omega) (by omega), w32_id (x := pr + T 0 0 1 * d) (by omega) (by omega), e_181_55, hτ, go, if_false]
      by_cases c4 : e 0 < 0
      · rw [if_pos c4]
      · rw [if_neg c4, if_neg (by rcases c3 with c3 | c3 <;> omega)]
    · funext j; rw [← hτ]; simp only [up_rd]; rw [if_neg (by omega), if_neg (by omega), if_neg (by omega), if_neg (by omega)]
    · rw [← hτ]; simp only [up_rd]; rw [if_neg (by omega), if_neg (by omega), if_neg (by omega), if_neg (by omega)]
    · intro j hj
      rw [hof, ← hτ]
      rcases (show j = 0 ∨ j = 1 ∨ j = 2 ∨ j = 3 by omega) with rfl | rfl | rfl | rfl <;> simp [up_rd]
  · have hof : ofE (T 0) p pr d f s e = e := if_neg c
    rw [hof]
    refine ⟨σ, fun Q => ?_, FrJ.rf, he⟩
    rw [hd0, e_181_22]
    simp only [brI, not_true_eq_false, true_implies, false_implies, implies_true, and_true, cTag, cTgt, cLen, true_and, Int.toNat_natCast, retI_I, retR_R, retV_N, retL_L, ne_eq, Int.reduceEq, not_false_eq_true, e0, e1, w32_id (x := T 0 0 1 * d) (by omega) (by omega), w32_id (x := pr + T 0 0 1 * d) (by omega) (by omega), go]
    by_cases c1 : d < 1000000 ∧ pr ≤ T 0 (8 + p) 5
    · have c3 : ¬ (e 0 = -6 ∨ pr + T 0 0 1 * d < e 0) := fun q => c ⟨c1.1, c1.2, q⟩
      have c4 : 0 ≤ e 0 := hk.resolve_left (fun q => c3 (Or.inl q))
      rw [bI_t c1, if_neg (by omega), if_neg (by omega), if_pos (by omega)]
    · rw [bI_f c1, if_pos rfl]
theorem x_sells (hI : IM T σ) (hS : VS B (T 0)) {p x o : Nat} (hp : p < 4) (h1 : T 0 (8 + p) 0 = 1) (hx : x < 6) (ho : o < 64) {s : Int} (hs : s = 1 ∨ s = 2) (Q : PQ) : X L 180 0 [some (xR 75), some (xI (x : Int)), some (xI s), some (xI (p : Int)), some (xI (o : Int))] [] σ Q = Q (some (xI (bI (sel (T 0) p o x s)))) σ := by
  have hP := hI.1.pp p hp h1
  have hbit := bit_n (a := o) (k := x) (by omega) (by omega)
  obtain ⟨a1, a2, a3, a4, a5, -⟩ := hS.p hp
  have r4 : σ 79 x = T 0 4 x := hI.1.sd x hx
  have fl : σ 83 (2 * p) = T 0 (8 + p) 3 := hP.fl
  have fr : σ 83 (2 * p + 1) = T 0 (8 + p) 4 := hP.fr
  obtain ⟨k, hk, hk2, hz⟩ : ∃ k : Nat, w32 (w32 (w32 (2 * (p : Int)) + s) - 1) = (k : Int) ∧ k < 8 ∧ σ 83 k = szo (T 0 (8 + p)) s := by
    rcases hs with rfl | rfl
    · exact ⟨2 * p, by simp (disch := omega) only [w32_id]; omega, by omega, by rw [fl]; simp [szo]⟩
    · exact ⟨2 * p + 1, by simp (disch := omega) only [w32_id]; omega, by omega, by rw [fr]; simp [szo]⟩
  obtain ⟨z, hze⟩ : ∃ z : Nat, szo (T 0 (8 + p)) s = (z : Int) ∧ z < 5 := by
    refine ⟨(szo (T 0 (8 + p)) s).toNat, ?_⟩
    unfold szo; split <;> omega
  have r6 : σ 81 (5 * x + z) = T 0 6 (5 * x + z) := hI.1.st _ (by omega)
  have hst : stk (T 0) (x : Int) (z : Int) = T 0 6 (5 * x + z) := by
    unfold stk; rw [if_pos (by omega)]; rfl
  rw [hze.1] at hz
  rw [e_180_0]
  simp only [brI, not_true_eq_false, true_implies, false_implies, implies_true, and_true, cTag, cTgt, cLen, true_and, Int.toNat_natCast, retI_I, retR_R, retV_N, retL_L, ne_eq, Int.reduceEq, not_false_eq_true, x_has, bI_0, hk, hz, r4, show (0 ≤ (k : Int) ∧ (k : Int) < 8) by omega, show (0 ≤ (x : Int) ∧ (x : Int) < 6) by omega, show w32 (w32 (5 * (x : Int)) + (z : Int)) = ((5 * x + z : Nat) : Int) by simp (disch := omega) only [w32_id]; omega, show (0 ≤ ((5 * x + z : Nat) : Int) ∧ ((5 * x + z : Nat) : Int) < 30) by omega, r6, e_180_47, e_180_48]
  by_cases cb : bit (o : Int) (x : Int)
  · rw [if_neg (fun q => q cb)]
    by_cases c4 : T 0 4 x = s
    · rw [if_neg (fun q => q c4)]
      by_cases c5 : T 0 6 (5 * x + z) ≤ 0
      · rw [if_pos c5, bI_f (fun q => by have := q.2.2; rw [hze.1, hst] at this; omega)]; simp
      · rw [if_neg c5, bI_t ⟨hbit.mp cb, c4, by rw [hze.1, hst]; omega⟩]; simp
    · rw [if_pos c4, bI_f (fun q => c4 q.2.1)]; simp
  · rw [if_pos cb, bI_f (fun q => cb (hbit.mpr q.1))]; simp
def sat (a b : Int) : Int := if 1000000 ≤ a + b then 1000000 else a + b
theorem x_sum (a b : Int) (ha : 0 ≤ a ∧ a ≤ 1000000) (hb : 0 ≤ b ∧ b ≤ 1000000) (Q : PQ) : X L 182 0 [some (xR 75), some (xI a), some (xI b)] [] σ Q = Q (some (xI (sat a b))) σ := by
  rw [e_182_0]
  simp only [brI, not_true_eq_false, true_implies, false_implies, implies_true, and_true, cTag, cTgt, cLen, true_and, Int.toNat_natCast, retI_I, retR_R, retV_N, retL_L, ne_eq, Int.reduceEq, not_false_eq_true, w32_id (x := a + b) (by omega) (by omega), e_182_14, e_182_16, sat]
  split <;> rfl
theorem sat_b {a b : Int} (ha : 0 ≤ a) (hb : 0 ≤ b) : 0 ≤ sat a b ∧ sat a b ≤ 1000000 ∧ (sat a b = a + b ∨ (1000000 ≤ a + b ∧ sat a b = 1000000)) := by
  unfold sat; split <;> omega
theorem one_ok (hS : VS B S) {p o x n : Nat} (hx : x < n) (hn : n ≤ 6) : okE (plE S p o n x) := by
  induction x with
  | zero => exact Or.inl rfl
  | succ x ih =>
    have h5 := hS.2.2.2.2.2.2.2.2.1 x (by omega)
    have := ih (by omega)
    simp only [plE]
    split
    · split
      · exact ofE_ok hS h5.1 (d1_b hS p x).1 this
      · exact sec_ok hS (by omega) this n hn
    · exact this
theorem x_second (hI : IM T σ) (hS : VS B (T 0)) (hL : LdF (T 0) σ) {p n x o : Nat} (hp : PsV (T 0) p n) (h1 : T 0 (8 + p) 0 = 1) (hx : x < n) (ho : o < 64) (h4 : T 0 4 x = 1 ∨ T 0 4 x = 2) {e : Er} (he : HM σ e) (hk : okE e) : ∃ τ, (∀ Q : PQ, X L 184 0 [some (xR 75), some (xI (p : Int)), some (xI (x : Int)), some (xI (T 0 4 x)), some (xI (dd (T 0) 0 (aT (T 0) p) x)), some (xI (o : Int)), none, none, none] [] σ Q = Q none τ) ∧ FrJ σ τ ∧ HM τ (sec (T 0) p o x e n) := by
  obtain ⟨p1, p2, p3, p4, p5, p6⟩ := id hp
  have hn6 := hS.1
  have hosd : 3 - T 0 4 x = osd (T 0) x := by
    show _ = if T 0 4 x = 1 then (2 : Int) else 1
    split <;> omega
  have hos : osd (T 0) x = 1 ∨ osd (T 0) x = 2 := by rw [← hosd]; omega
  have bx := dd_b hS 0 (aT (T 0) p) x
  obtain ⟨⟨τ, d7, d8⟩, e1, hF, hH⟩ := lpE (n := n) (fun y (z : Mem × Option PV × Option PV) Q => X L 184 3 [some (xR 75), some (xI (p : Int)), some (xI (x : Int)), some (xI (T 0 4 x)), some (xI (dd (T 0) 0 (aT (T 0) p) x)), some (xI (o : Int)), some (xI (y : Int)), z.2.1, z.2.2] [] z.1 Q) (fun y z => FrJ σ z.1 ∧ HM z.1 (sec (T 0) p o x e y)) (by
    intro y ⟨ρ, d7, d8⟩ hy ⟨hF, hH⟩
    have hF : FrJ σ ρ := hF
    have hH : HM ρ (sec (T 0) p o x e y) := hH
    have hIr := IM_Q hI hF.m
    have hLr := LdF_J hL hF
    have e0 : ρ 75 0 = T 0 0 0 := hIr.1.tw
    have nx : ∀ (ρ : Mem) (d7 d8 : Option PV) (Q : PQ), X L 184 107 [some (xR 75), some (xI (p : Int)), some (xI (x : Int)), some (xI (T 0 4 x)), some (xI (dd (T 0) 0 (aT (T 0) p) x)), some (xI (o : Int)), some (xI (y : Int)), d7, d8] [] ρ Q = X L 184 3 [some (xR 75), some (xI (p : Int)), some (xI (x : Int)), some (xI (T 0 4 x)), some (xI (dd (T 0) 0 (aT (T 0) p) x)), some (xI (o : Int)), some (xI ((y + 1 : Nat) : Int)), d7, d8] [] ρ Q := by
      intro ρ d7 d8 Q; rw [e_184_107, w32_id (by omega) (by omega)]; rfl
    have sl := fun Q => x_sells (L := L) hIr hS p1 h1 (show y < 6 by omega) ho hos Q
    have hosw : w32 (3 - T 0 4 x) = osd (T 0) x := by rw [w32_id (by omega) (by omega)]; exact hosd
    by_cases cs : sel (T 0) p o y (osd (T 0) x)
    · have hyx : ¬ y = x := by
        intro q; have := cs.2.1; rw [q] at this; clear cs; omega
      have u : sec (T 0) p o x e (y + 1) = ofE (T 0) p (T 0 5 x + T 0 5 y) (d2 (T 0) p x y) (x : Int) (y : Int) (sec (T 0) p o x e y) := if_pos cs
      have h5x := hS.2.2.2.2.2.2.2.2.1 x (by clear cs; omega)
      have h5y := hS.2.2.2.2.2.2.2.2.1 y (by clear cs; omega)
      have pry : ρ 80 y = T 0 5 y := hIr.1.pr y (by clear cs; omega)
      have prx : ρ 80 x = T 0 5 x := hIr.1.pr x (by clear cs; omega)
      have hom : ρ 82 p = (aH (T 0) p : Int) := (hIr.1.pp p p1 h1).ho.trans p6
      have kk : ρ 75 8 = T 0 0 2 := hIr.1.kk
      have b1 := dd_b hS 1 x y
      obtain ⟨l, hl, hl2⟩ := bI_n (T 0 0 2 ≤ dd (T 0) 1 x y)
      have b2 := dd_b hS l y (aH (T 0) p)
      have m1 := fun Q => x_farOf (L := L) hS hLr (l := 1) (a := x) (b := y) (by omega) (by clear cs; omega) (by clear cs; omega) Q
      have m1 : ∀ Q : PQ, X L 177 0 [some (xR 75), some (xI (x : Int)), some (xI (y : Int)), some (xI 1), none] [] ρ Q = Q (some (xI (dd (T 0) 1 x y))) ρ := m1
      have m2 := fun Q => x_farOf (L := L) hS hLr (l := l) (a := y) (b := aH (T 0) p) hl2 (by clear cs; omega) (by clear cs; omega) Q
      have s1 := sat_b (a := dd (T 0) 1 x y) (b := dd (T 0) l y (aH (T 0) p)) (by clear cs; omega) (by clear cs; omega)
      have s2 := sat_b (a := dd (T 0) 0 (aT (T 0) p) x) (b := sat (dd (T 0) 1 x y) (dd (T 0) l y (aH (T 0) p))) (by clear cs; omega) (by clear cs; omega)
      have s3 : d2 (T 0) p x y = dd (T 0) 0 (aT (T 0) p) x + dd (T 0) 1 x y + dd (T 0) l y (aH (T 0) p) := by unfold d2; rw [hl]
      obtain ⟨ρ1, e1, hF1, hH1⟩ := x_offerM (L := L) hIr hS p1 h1 (T 0 5 x + T 0 5 y) (sat (dd (T 0) 0 (aT (T 0) p) x) (sat (dd (T 0) 1 x y) (dd (T 0) l y (aH (T 0) p)))) (x : Int) (y : Int) (by clear cs; omega) (by clear cs; omega) hH (sec_ok hS (by clear cs; omega) hk y (by clear cs; omega))
      rw [ofE_sat (d := d2 (T 0) p x y) (by clear cs; omega), ← u] at hH1
      refine ⟨(ρ1, some (xI (dd (T 0) 1 x y)), some (xI (dd (T 0) l y (aH (T 0) p)))), fun Q => ?_, hF.tr hF1, hH1⟩
      show X L 184 3 [some (xR 75), some (xI (p : Int)), some (xI (x : Int)), some (xI (T 0 4 x)), some (xI (dd (T 0) 0 (aT (T 0) p) x)), some (xI (o : Int)), some (xI (y : Int)), d7, d8] [] ρ Q = X L 184 3 [some (xR 75), some (xI (p : Int)), some (xI (x : Int)), some (xI (T 0 4 x)), some (xI (dd (T 0) 0 (aT (T 0) p) x)), some (xI (o : Int)), some (xI ((y + 1 : Nat) : Int)), some (xI (dd (T 0) 1 x y)), some (xI (dd (T 0) l y (aH (T 0) p)))] [] ρ1 Q
      have e66 : X L 184 66 [some (xR 75), some (xI (p : Int)), some (xI (x : Int)), some (xI (T 0 4 x)), some (xI (dd (T 0) 0 (aT (T 0) p) x)), some (xI (o : Int)), some (xI (y : Int)), some (xI (dd (T 0) 1 x y)), d8] [xI (l : Int), xI (aH (T 0) p : Int), xI (y : Int), xR 75] ρ Q = X L 184 3 [some (xR 75), some (xI (p : Int)), some (xI (x : Int)), some (xI (T 0 4 x)), some (xI (dd (T 0) 0 (aT (T 0) p) x)), some (xI (o : Int)), some (xI ((y + 1 : Nat) : Int)), some (xI (dd (T 0) 1 x y)), some (xI (dd (T 0) l y (aH (T 0) p)))] [] ρ1 Q := by
        rw [e_184_66]
        simp only [brI, not_true_eq_false, true_implies, false_implies, implies_true, and_true, cTag, cTgt, cLen, true_and, Int.toNat_natCast, retI_I, retR_R, retV_N, retL_L, ne_eq, Int.reduceEq, not_false_eq_true, m2, prx, pry, x_sum (dd (T 0) 1 x y) (dd (T 0) l y (aH (T 0) p)) (by clear cs; omega) (by clear cs; omega), x_sum (dd (T 0) 0 (aT (T 0) p) x) (sat (dd (T 0) 1 x y) (dd (T 0) l y (aH (T 0) p))) (by clear cs; omega) (by clear cs; omega), w32_id (x := T 0 5 x + T 0 5 y) (by clear cs; omega) (by clear cs; omega), show (0 ≤ (x : Int) ∧ (x : Int) < 6) by (clear cs; omega), show (0 ≤ (y : Int) ∧ (y : Int) < 6) by (clear cs; omega), e1, nx]
      rw [e_184_3]
      simp only [brI, not_true_eq_false, true_implies, false_implies, implies_true, and_true, cTag, cTgt, cLen, true_and, Int.toNat_natCast, retI_I, retR_R, retV_N, retL_L, ne_eq, Int.reduceEq, not_false_eq_true, e0, sl, bI_0, hosw, m1, kk, hom, show (0 ≤ (p : Int) ∧ (p : Int) < 4) by (clear cs; omega), e_184_65]
      rw [if_neg (by clear cs; omega), if_neg (by clear cs; omega), if_neg (fun q => q cs)]
      by_cases c : T 0 0 2 ≤ dd (T 0) 1 x y
      · rw [bI_t c] at hl
        rw [if_neg (by clear cs; omega)]
        rw [← hl] at e66 ⊢; exact e66
      · rw [bI_f c] at hl
        rw [if_pos (by clear cs; omega)]
        rw [← hl] at e66 ⊢; exact e66
    · have u : sec (T 0) p o x e (y + 1) = sec (T 0) p o x e y := if_neg cs
      rw [← u] at hH
      refine ⟨(ρ, d7, d8), fun Q => ?_, hF, hH⟩
      show X L 184 3 [some (xR 75), some (xI (p : Int)), some (xI (x : Int)), some (xI (T 0 4 x)), some (xI (dd (T 0) 0 (aT (T 0) p) x)), some (xI (o : Int)), some (xI (y : Int)), d7, d8] [] ρ Q = X L 184 3 [some (xR 75), some (xI (p : Int)), some (xI (x : Int)), some (xI (T 0 4 x)), some (xI (dd (T 0) 0 (aT (T 0) p) x)), some (xI (o : Int)), some (xI ((y + 1 : Nat) : Int)), d7, d8] [] ρ Q
      rw [e_184_3]
      simp only [brI, not_true_eq_false, true_implies, false_implies, implies_true, and_true, cTag, cTgt, cLen, true_and, Int.toNat_natCast, retI_I, retR_R, retV_N, retL_L, ne_eq, Int.reduceEq, not_false_eq_true, e0, sl, bI_0, hosw, nx]
      rw [if_neg (by clear cs; omega)]
      by_cases c : (y : Int) = (x : Int)
      · rw [if_pos c]
      · rw [if_neg c, if_pos cs]) (a := (σ, none, none)) ⟨FrJ.rf, he⟩
  have hH : HM τ (sec (T 0) p o x e n) := hH
  have hF : FrJ σ τ := hF
  refine ⟨τ, fun Q => ?_, hF, hH⟩
  have e1 : ∀ Q : PQ, X L 184 3 [some (xR 75), some (xI (p : Int)), some (xI (x : Int)), some (xI (T 0 4 x)), some (xI (dd (T 0) 0 (aT (T 0) p) x)), some (xI (o : Int)), some (xI 0), none, none] [] σ Q = X L 184 3 [some (xR 75), some (xI (p : Int)), some (xI (x : Int)), some (xI (T 0 4 x)), some (xI (dd (T 0) 0 (aT (T 0) p) x)), some (xI (o : Int)), some (xI (n : Int)), d7, d8] [] τ Q := e1
  have e0 : τ 75 0 = T 0 0 0 := (IM_Q hI hF.m).1.tw
  rw [e_184_0, e1, e_184_3]
  simp only [brI, not_true_eq_false, true_implies, false_implies, implies_true, and_true, cTag, cTgt, cLen, true_and, Int.toNat_natCast, retI_I, retR_R, retV_N, retL_L, ne_eq, Int.reduceEq, not_false_eq_true, e0]
  rw [if_pos (by omega), e_184_113]
end MShod
