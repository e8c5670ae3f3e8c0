/-! SHOD -/
section Shod
variable {B : Int} {S σ τ : Mem} {L v : Nat} {T : Ful}
abbrev Er : Type := Nat → Int
abbrev ofC (S : Mem) (p : Nat) (pr d : Int) (e : Er) : Prop := d < 1000000 ∧ pr ≤ S (8 + p) 5 ∧ (e 0 = -6 ∨ pr + S 0 1 * d < e 0)
def ofE (S : Mem) (p : Nat) (pr d f s : Int) (e : Er) : Er := if ofC S p pr d e then (fun j => if j = 0 then pr + S 0 1 * d else if j = 1 then d else if j = 2 then f else s) else e
def okE (e : Er) : Prop := e 0 = -6 ∨ 0 ≤ e 0
theorem tol_b (hS : VS B S) {d : Int} (h : 0 ≤ d ∧ d ≤ 1000000) : 0 ≤ S 0 1 * d ∧ S 0 1 * d ≤ 9000000 := by
  have ht := hS.2.1
  refine ⟨Int.mul_nonneg ht.1 h.1, ?_⟩
  have := Int.mul_le_mul ht.2 h.2 h.1 (by omega : (0 : Int) ≤ 9)
  omega
theorem ofE_ok (hS : VS B S) {p : Nat} {pr d f s : Int} {e : Er} (hp : 0 ≤ pr) (hd : 0 ≤ d) (h : okE e) : okE (ofE S p pr d f s e) := by
  unfold ofE
  by_cases c : ofC S p pr d e
  · rw [if_pos c]
    have := tol_b hS (d := d) ⟨hd, by have := c.1; omega⟩
    exact Or.inr (by show 0 ≤ pr + S 0 1 * d; omega)
  · rw [if_neg c]; exact h
theorem ofE_sat {p : Nat} {pr d d' f s : Int} {e : Er} (h : d' = d ∨ (1000000 ≤ d ∧ 1000000 ≤ d')) : ofE S p pr d' f s e = ofE S p pr d f s e := by
  rcases h with h | h
  · rw [h]
  · unfold ofE
    rw [if_neg (fun q => by have := q.1; omega), if_neg (fun q => by have := q.1; omega)]
def HE (σ : Mem) (e : Er) : Prop := ∀ j, j < 4 → σ 38 j = e j
def FrE (σ τ : Mem) : Prop := (∀ o, o ≠ 38 → τ o = σ o) ∧ ∀ j, 4 ≤ j → τ 38 j = σ 38 j
theorem FrE.tr {a b c : Mem} (h1 : FrE a b) (h2 : FrE b c) : FrE a c := ⟨fun o h => (h2.1 o h).trans (h1.1 o h), fun j h => (h2.2 j h).trans (h1.2 j h)⟩
theorem FrE.rf : FrE σ σ := ⟨fun _ _ => rfl, fun _ _ => rfl⟩
theorem x_offer (hR : RC 1 S σ) (hS : VS B S) {p : Nat} (hp : p < 4) (f s d : Int) (hd : 0 ≤ d ∧ d ≤ 4000000) {e : Er} (he : HE σ e) : ∃ τ, (∀ Q : PQ, X L 12 0 [some (xR 38), some (xR 1), some (xR (1 + 11 + p)), some (xI f), some (xI s), some (xI d), none, none] [] σ Q = Q none τ) ∧ FrE σ τ ∧ HE τ (ofE S p (g1 S 5 6 f + g1 S 5 6 s) d f s e) := by
  have hg : ∀ f, 0 ≤ g1 S 5 6 f ∧ g1 S 5 6 f ≤ 20 := by
    intro f; unfold g1; split
    · exact hS.2.2.2.2.2.2.2.2.1 _ (by omega)
    · omega
  have h1 := hg f
  have h2 := hg s
  have e1 := hR.1 1 (by omega)
  have e5 := hR.p hp (f := 5) (by omega)
  have e0 := he 0 (by omega)
  generalize hpr : g1 S 5 6 f + g1 S 5 6 s = pr
  have hprb : 0 ≤ pr ∧ pr ≤ 40 := by omega
  have hd0 : ∀ Q : PQ, X L 12 0 [some (xR 38), some (xR 1), some (xR (1 + 11 + p)), some (xI f), some (xI s), some (xI d), none, none] [] σ Q = if 1000000 ≤ d then Q none σ else if pr ≤ S (8 + p) 5 then X L 12 31 [some (xR 38), some (xR 1), some (xR (1 + 11 + p)), some (xI f), some (xI s), some (xI d), some (xI pr), none] [] σ Q else Q none σ := by
    intro Q
    rw [e_12_0]
    simp only [brI, not_true_eq_false, true_implies, false_implies, implies_true, and_true, cTag, cTgt, cLen, true_and, Int.toNat_natCast, retI_I, retR_R, retV_N, retL_L, ne_eq, Int.reduceEq, not_false_eq_true, x_priceAt iV1 hR, gt_p iV1 hp, e5, hpr, w32_id (x := pr) (by omega) (by omega), e_12_30]
  by_cases c : ofC S p pr d e
  · obtain ⟨c1, c2, c3⟩ := id c
    have ht := tol_b hS (d := d) (by omega)
    have hof : ofE S p pr d f s e = (fun j => if j = 0 then pr + S 0 1 * d else if j = 1 then d else if j = 2 then f else s) := if_pos c
    obtain ⟨τ, hτ⟩ : ∃ τ, up (up (up (up σ 38 0 (pr + S 0 1 * d)) 38 1 d) 38 2 f) 38 3 s = τ := ⟨_, rfl⟩
    refine ⟨τ, fun Q => ?_, ⟨fun o ho => ?_, fun j hj => ?_⟩, ?_⟩
    · have e61 : X L 12 61 [some (xR 38), some (xR 1), some (xR (1 + 11 + p)), some (xI f), some (xI s), some (xI d), some (xI pr), some (xI (pr + S 0 1 * d))] [] σ Q = Q none τ := by
        rw [e_12_61]
        simp only [brI, not_true_eq_false, true_implies, false_implies, implies_true, and_true, cTag, cTgt, cLen, true_and, Int.toNat_natCast, retI_I, retR_R, retV_N, retL_L, ne_eq, Int.reduceEq, not_false_eq_true, hτ, e_12_84]
      rw [hd0, if_neg (by omega), if_pos c2, e_12_31]
      simp only [brI, not_true_eq_false, true_implies, false_implies, implies_true, and_true, cTag, cTgt, cLen, true_and, Int.toNat_natCast, retI_I, retR_R, retV_N, retL_L, ne_eq, Int.reduceEq, not_false_eq_true, e0, e1, w32_id (x := S 0 1 * d) (by omega) (by omega), w32_id (x := pr + S 0 1 * d) (by omega) (by omega)]
      by_cases c4 : e 0 = -6
      · rw [if_pos c4]; exact e61
      · rw [if_neg c4, if_neg (by have := c3.resolve_left c4; omega)]; exact e61
    · funext j; rw [← hτ]; simp only [up_rd]; rw [if_neg (by omega), if_neg (by omega), if_neg (by omega), if_neg (by omega)]
    · rw [← hτ]; simp only [up_rd]; rw [if_neg (by omega), if_neg (by omega), if_neg (by omega), if_neg (by omega)]
    · intro j hj
      rw [hof, ← hτ]
      rcases (show j = 0 ∨ j = 1 ∨ j = 2 ∨ j = 3 by omega) with rfl | rfl | rfl | rfl <;> simp [up_rd]
  · have hof : ofE S p pr d f s e = e := if_neg c
    rw [hof]
    refine ⟨σ, fun Q => ?_, FrE.rf, he⟩
    rw [hd0]
    by_cases c1 : 1000000 ≤ d
    · rw [if_pos c1]
    · rw [if_neg c1]
      by_cases c2 : pr ≤ S (8 + p) 5
      · have ht := tol_b hS (d := d) (by omega)
        have c3 : ¬ (e 0 = -6 ∨ pr + S 0 1 * d < e 0) := fun q => c ⟨by omega, c2, q⟩
        rw [if_pos c2, e_12_31]
        simp only [brI, not_true_eq_false, true_implies, false_implies, implies_true, and_true, cTag, cTgt, cLen, true_and, Int.toNat_natCast, retI_I, retR_R, retV_N, retL_L, ne_eq, Int.reduceEq, not_false_eq_true, e0, e1, w32_id (x := S 0 1 * d) (by omega) (by omega), w32_id (x := pr + S 0 1 * d) (by omega) (by omega), e_12_84]
        rw [if_neg (fun q => c3 (Or.inl q)), if_pos (by omega)]
      · rw [if_neg c2]
/-! what is offered -/
abbrev aT (S : Mem) (p : Nat) : Nat := (S (8 + p) 2).toNat
abbrev aH (S : Mem) (p : Nat) : Nat := (S (8 + p) 1).toNat
def d1 (S : Mem) (p x : Nat) : Int := dd S 1 (aT S p) x + dd S (bI (S 0 2 ≤ S (8 + p) 8 + S (8 + p) 9 + dd S 1 (aT S p) x)) x (aH S p)
def d2 (S : Mem) (p x y : Nat) : Int := dd S 0 (aT S p) x + dd S 1 x y + dd S (bI (S 0 2 ≤ dd S 1 x y)) y (aH S p)
abbrev sel (S : Mem) (p o x : Nat) (s : Int) : Prop := o.testBit x = true ∧ S 4 x = s ∧ 0 < stk S x (szo (S (8 + p)) s)
abbrev osd (S : Mem) (x : Nat) : Int := if S 4 x = 1 then 2 else 1
def sec (S : Mem) (p o x : Nat) (e : Er) : Nat → Er
  | 0 => e
  | y + 1 => if sel S p o y (osd S x) then ofE S p (S 5 x + S 5 y) (d2 S p x y) (x : Int) (y : Int) (sec S p o x e y) else sec S p o x e y
abbrev plC (S : Mem) (p o x : Nat) : Prop := ¬ S 4 x = 0 ∧ wrs (S (8 + p)) (S 4 x) = 0 ∧ sel S p o x (S 4 x)
abbrev one (S : Mem) (p : Nat) : Prop := ¬ S (8 + p) 6 = 0 ∨ ¬ S (8 + p) 7 = 0
def plE (S : Mem) (p o n : Nat) : Nat → Er
  | 0 => fun _ => -6
  | x + 1 => if plC S p o x then (if one S p then ofE S p (S 5 x) (d1 S p x) (x : Int) (-6) (plE S p o n x) else sec S p o x (plE S p o n x) n) else plE S p o n x
def shd (S : Mem) (p o n : Nat) : Er := if ¬ S (8 + p) 6 = 0 ∧ ¬ S (8 + p) 7 = 0 then ofE S p 0 (dd S (bI (lmp (S (8 + p)) (S 0 2))) (aT S p) (aH S p)) (-6) (-6) (fun _ => -6) else plE S p o n n
/-- a PERSON, as the errands see it -/
def PsV (S : Mem) (p n : Nat) : Prop := p < 4 ∧ (n : Int) = S 0 0 ∧ aT S p < n ∧ aH S p < n ∧ S (8 + p) 2 = (aT S p : Int) ∧ S (8 + p) 1 = (aH S p : Int)
theorem psv (hS : VS B S) {p n : Nat} (hp : p < 4) (hn : (n : Int) = S 0 0) : PsV S p n := by
  obtain ⟨a1, a2, a3, -⟩ := hS.p hp
  refine ⟨hp, hn, ?_, ?_, ?_, ?_⟩
  · show (S (8 + p) 2).toNat < n; omega
  · show (S (8 + p) 1).toNat < n; omega
  · show S (8 + p) 2 = ((S (8 + p) 2).toNat : Int); omega
  · show S (8 + p) 1 = ((S (8 + p) 1).toNat : Int); omega
theorem d1_b (hS : VS B S) (p x : Nat) : 0 ≤ d1 S p x ∧ d1 S p x ≤ 2000000 := by
  have h1 := dd_b hS 1 (aT S p) x
  have h2 := dd_b hS (bI (S 0 2 ≤ S (8 + p) 8 + S (8 + p) 9 + dd S 1 (aT S p) x)) x (aH S p)
  unfold d1; omega
theorem d2_b (hS : VS B S) (p x y : Nat) : 0 ≤ d2 S p x y ∧ d2 S p x y ≤ 3000000 := by
  have h1 := dd_b hS 0 (aT S p) x
  have h2 := dd_b hS 1 x y
  have h3 := dd_b hS (bI (S 0 2 ≤ dd S 1 x y)) y (aH S p)
  unfold d2; omega
theorem bI_n (c : Prop) [Decidable c] : ∃ l : Nat, bI c = (l : Int) ∧ l < 2 := by
  unfold bI
  split
  · exact ⟨1, rfl, by omega⟩
  · exact ⟨0, rfl, by omega⟩
theorem x_over1 (hR : RC 1 S σ) (hS : VS B S) (hB : B ≤ 1000000) (hL : LdC S σ) {p n x : Nat} (hp : PsV S p n) (hx : x < n) (Q : PQ) : X L 10 0 [some (xR 38), some (xR 1), some (xR 36), some (xR (1 + 11 + p)), some (xI (x : Int)), none, none] [] σ Q = Q (some (xI (d1 S p x))) σ := by
  obtain ⟨p1, p2, p3, p4, p5, p6⟩ := hp
  have hn6 := hS.1
  obtain ⟨a1, a2, a3, a4, a5, a6, a7, a8, a9, a10, a11, a12⟩ := hS.p p1
  have r1 := hR.p p1 (f := 1) (by omega)
  have r2 := hR.p p1 (f := 2) (by omega)
  have r8 := hR.p p1 (f := 8) (by omega)
  have r9 := hR.p p1 (f := 9) (by omega)
  have e2 := hR.1 2 (by omega)
  have m1 := fun Q => x_milesBt (L := L) hS hL (l := 1) (a := aT S p) (b := x) (by omega) (by omega) (by omega) Q
  have m1 : ∀ Q : PQ, X L 85 0 [some (xR 36), some (xI (aT S p : Int)), some (xI (x : Int)), some (xI 1)] [] σ Q = Q (some (xI (dd S 1 (aT S p) x))) σ := m1
  have b1 := dd_b hS 1 (aT S p) x
  unfold d1
  obtain ⟨l, hl, hl2⟩ := bI_n (S 0 2 ≤ S (8 + p) 8 + S (8 + p) 9 + dd S 1 (aT S p) x)
  have m2 := fun Q => x_milesBt (L := L) hS hL (l := l) (a := x) (b := aH S p) hl2 (by omega) (by omega) Q
  have b2 := dd_b hS l x (aH S p)
  have e37 : X L 10 37 [some (xR 38), some (xR 1), some (xR 36), some (xR (1 + 11 + p)), some (xI (x : Int)), some (xI (dd S 1 (aT S p) x)), none] [xI (l : Int)] σ Q = Q (some (xI (dd S 1 (aT S p) x + dd S l x (aH S p)))) σ := by
    rw [e_10_37]
    simp only [brI, not_true_eq_false, true_implies, false_implies, implies_true, and_true, cTag, cTgt, cLen, true_and, Int.toNat_natCast, retI_I, retR_R, retV_N, retL_L, ne_eq, Int.reduceEq, not_false_eq_true, gt_p iV1 p1, r1, p6, m2]
    rw [w32_id (by omega) (by omega)]
  rw [hl, e_10_0]
  simp only [brI, not_true_eq_false, true_implies, false_implies, implies_true, and_true, cTag, cTgt, cLen, true_and, Int.toNat_natCast, retI_I, retR_R, retV_N, retL_L, ne_eq, Int.reduceEq, not_false_eq_true, gt_p iV1 p1, r2, p5, m1, r8, r9, e2, w32_id (x := S (8 + p) 8 + S (8 + p) 9) (by omega) (by omega), w32_id (x := S (8 + p) 8 + S (8 + p) 9 + dd S 1 (aT S p) x) (by omega) (by omega), e_10_36]
  by_cases c : S 0 2 ≤ S (8 + p) 8 + S (8 + p) 9 + dd S 1 (aT S p) x
  · rw [bI_t c] at hl
    rw [if_neg (by omega)]
    rw [← hl] at e37; rw [← hl]; exact e37
  · rw [bI_f c] at hl
    rw [if_pos (by omega)]
    rw [← hl] at e37; rw [← hl]; exact e37
theorem x_over2 (hR : RC 1 S σ) (hS : VS B S) (hL : LdC S σ) {p n x y : Nat} (hp : PsV S p n) (hx : x < n) (hy : y < n) (Q : PQ) : X L 11 0 [some (xR 38), some (xR 1), some (xR 36), some (xR (1 + 11 + p)), some (xI (x : Int)), some (xI (y : Int)), none, none, none] [] σ Q = Q (some (xI (d2 S p x y))) σ := by
  obtain ⟨p1, p2, p3, p4, p5, p6⟩ := hp
  have hn6 := hS.1
  have r1 := hR.p p1 (f := 1) (by omega)
  have r2 := hR.p p1 (f := 2) (by omega)
  have e2 := hR.1 2 (by omega)
  have m0 := fun Q => x_milesBt (L := L) hS hL (l := 0) (a := aT S p) (b := x) (by omega) (by omega) (by omega) Q
  have m0 : ∀ Q : PQ, X L 85 0 [some (xR 36), some (xI (aT S p : Int)), some (xI (x : Int)), some (xI 0)] [] σ Q = Q (some (xI (dd S 0 (aT S p) x))) σ := m0
  have m1 := fun Q => x_milesBt (L := L) hS hL (l := 1) (a := x) (b := y) (by omega) (by omega) (by omega) Q
  have m1 : ∀ Q : PQ, X L 85 0 [some (xR 36), some (xI (x : Int)), some (xI (y : Int)), some (xI 1)] [] σ Q = Q (some (xI (dd S 1 x y))) σ := m1
  have b0 := dd_b hS 0 (aT S p) x
  have b1 := dd_b hS 1 x y
  unfold d2
  obtain ⟨l, hl, hl2⟩ := bI_n (S 0 2 ≤ dd S 1 x y)
  have m2 := fun Q => x_milesBt (L := L) hS hL (l := l) (a := y) (b := aH S p) hl2 (by omega) (by omega) Q
  have b2 := dd_b hS l y (aH S p)
  have e38 : X L 11 38 [some (xR 38), some (xR 1), some (xR 36), some (xR (1 + 11 + p)), some (xI (x : Int)), some (xI (y : Int)), some (xI (dd S 0 (aT S p) x)), some (xI (dd S 1 x y)), none] [xI (l : Int)] σ Q = Q (some (xI (dd S 0 (aT S p) x + dd S 1 x y + dd S l y (aH S p)))) σ := by
    rw [e_11_38]
    simp only [brI, not_true_eq_false, true_implies, false_implies, implies_true, and_true, cTag, cTgt, cLen, true_and, Int.toNat_natCast, retI_I, retR_R, retV_N, retL_L, ne_eq, Int.reduceEq, not_false_eq_true, gt_p iV1 p1, r1, p6, m2]
    rw [w32_id (x := dd S 0 (aT S p) x + dd S 1 x y) (by omega) (by omega), w32_id (by omega) (by omega)]
  rw [hl, e_11_0]
  simp only [brI, not_true_eq_false, true_implies, false_implies, implies_true, and_true, cTag, cTgt, cLen, true_and, Int.toNat_natCast, retI_I, retR_R, retV_N, retL_L, ne_eq, Int.reduceEq, not_false_eq_true, gt_p iV1 p1, r2, p5, m0, m1, e2, e_11_37]
  by_cases c : S 0 2 ≤ dd S 1 x y
  · rw [bI_t c] at hl
    rw [if_neg (by omega)]
    rw [← hl] at e38; rw [← hl]; exact e38
  · rw [bI_f c] at hl
    rw [if_pos (by omega)]
    rw [← hl] at e38; rw [← hl]; exact e38
theorem LdC_E (hL : LdC S σ) (hF : FrE σ τ) : LdC S τ := fun l a b h1 h2 h3 => by rw [hF.1 37 (by omega)]; exact hL l a b h1 h2 h3
theorem RC_E (hR : RC 1 S σ) (hF : FrE σ τ) : RC 1 S τ := RC_eq (fun o ho => hF.1 o (by omega)) hR
theorem sec_ok (hS : VS B S) {p o x : Nat} {e : Er} (hx : x < 6) (h : okE e) : ∀ y, y ≤ 6 → okE (sec S p o x e y) := by
  intro y
  induction y with
  | zero => intro _; exact h
  | succ y ih =>
    intro hy
    have h1 := hS.2.2.2.2.2.2.2.2.1 x hx
    have h2 := hS.2.2.2.2.2.2.2.2.1 y (by omega)
    simp only [sec]
    by_cases c : sel S p o y (osd S x)
    · rw [if_pos c]; exact ofE_ok hS (by clear c; omega) (d2_b hS p x y).1 (ih (by omega))
    · rw [if_neg c]; exact ih (by omega)
theorem x_planFrom (hR : RC 1 S σ) (hS : VS B S) (hB : B ≤ 1000000) (hL : LdC S σ) {p n x o : Nat} (hp : PsV S p n) (hx : x < n) (ho : o < 64) {e : Er} (he : HE σ e) : ∃ τ, (∀ Q : PQ, X L 9 0 [some (xR 38), some (xR 1), some (xR 36), some (xR (1 + 11 + p)), some (xI (o : Int)), some (xI (x : Int)), none, none] [] σ Q = Q none τ) ∧ FrE σ τ ∧ HE τ (if one S p then ofE S p (S 5 x) (d1 S p x) (x : Int) (-6) e else sec S p o x e n) := by
  obtain ⟨p1, p2, p3, p4, p5, p6⟩ := id hp
  have hn6 := hS.1
  have r6 := hR.p p1 (f := 6) (by omega)
  have r7 := hR.p p1 (f := 7) (by omega)
  by_cases c : one S p
  · rw [if_pos c]
    have hb := d1_b hS p x
    have g5 : g1 S 5 6 (x : Int) + g1 S 5 6 (-6) = S 5 x := by
      rw [g1_at (by omega)]; unfold g1; rw [if_neg (by omega)]; omega
    obtain ⟨τ, e1, hF, hH⟩ := x_offer (L := L) hR hS p1 (x : Int) (-6) (d1 S p x) (by omega) he
    rw [g5] at hH
    refine ⟨τ, fun Q => ?_, hF, hH⟩
    have e14 : X L 9 14 [some (xR 38), some (xR 1), some (xR 36), some (xR (1 + 11 + p)), some (xI (o : Int)), some (xI (x : Int)), none, none] [] σ Q = Q none τ := by
      rw [e_9_14]
      simp only [brI, not_true_eq_false, true_implies, false_implies, implies_true, and_true, cTag, cTgt, cLen, true_and, Int.toNat_natCast, retI_I, retR_R, retV_N, retL_L, ne_eq, Int.reduceEq, not_false_eq_true, x_over1 hR hS hB hL hp hx, e1]
    rw [e_9_0]
    simp only [brI, not_true_eq_false, true_implies, false_implies, implies_true, and_true, cTag, cTgt, cLen, true_and, Int.toNat_natCast, retI_I, retR_R, retV_N, retL_L, ne_eq, Int.reduceEq, not_false_eq_true, gt_p iV1 p1, r6, r7]
    by_cases c6 : S (8 + p) 6 = 0
    · rw [if_neg (fun q => q c6), if_neg (c.resolve_left (fun q => q c6))]; exact e14
    · rw [if_pos c6]; exact e14
  · rw [if_neg c]
    have c6 : S (8 + p) 6 = 0 := Classical.byContradiction (fun q => c (Or.inl q))
    have c7 : S (8 + p) 7 = 0 := Classical.byContradiction (fun q => c (Or.inr q))
    obtain ⟨τ, e1, hF, hH⟩ := lpE (n := n) (fun y (ρ : Mem) Q => X L 9 54 [some (xR 38), some (xR 1), some (xR 36), some (xR (1 + 11 + p)), some (xI (o : Int)), some (xI (x : Int)), some (xI (osd S x)), some (xI (y : Int))] [] ρ Q) (fun y ρ => FrE σ ρ ∧ HE ρ (sec S p o x e y)) (by
      intro y ρ hy ⟨hF, hH⟩
      have hRr := RC_E hR hF
      have hLr := LdC_E hL hF
      have e0 := hRr.1 0 (by omega)
      have hb := d2_b hS p x y
      have hbit := bit_n (a := o) (k := y) (by omega) (by omega)
      have hhf := fun Q => x_hasFor (L := L) iV1 hRr p1 hS (y : Int) (osd S x) (by omega) none Q
      rw [g1_at (show y < 6 by omega)] at hhf
      have nx : ∀ (ρ : Mem) (Q : PQ), X L 9 106 [some (xR 38), some (xR 1), some (xR 36), some (xR (1 + 11 + p)), some (xI (o : Int)), some (xI (x : Int)), some (xI (osd S x)), some (xI (y : Int))] [] ρ Q = X L 9 54 [some (xR 38), some (xR 1), some (xR 36), some (xR (1 + 11 + p)), some (xI (o : Int)), some (xI (x : Int)), some (xI (osd S x)), some (xI ((y + 1 : Nat) : Int))] [] ρ Q := by
        intro ρ Q; rw [e_9_106, w32_id (by omega) (by omega)]; rfl
      by_cases cs : sel S p o y (osd S x)
      · have u : sec S p o x e (y + 1) = ofE S p (S 5 x + S 5 y) (d2 S p x y) (x : Int) (y : Int) (sec S p o x e y) := if_pos cs
        have g5 : g1 S 5 6 (x : Int) + g1 S 5 6 (y : Int) = S 5 x + S 5 y := by
          rw [g1_at (by clear cs; omega), g1_at (by clear cs; omega)]
        obtain ⟨ρ1, e1, hF1, hH1⟩ := x_offer (L := L) hRr hS p1 (x : Int) (y : Int) (d2 S p x y) (by clear cs; omega) hH
        rw [g5, ← u] at hH1
        refine ⟨ρ1, fun Q => ?_, hF.tr hF1, hH1⟩
        show X L 9 54 [some (xR 38), some (xR 1), some (xR 36), some (xR (1 + 11 + p)), some (xI (o : Int)), some (xI (x : Int)), some (xI (osd S x)), some (xI (y : Int))] [] ρ Q = X L 9 54 [some (xR 38), some (xR 1), some (xR 36), some (xR (1 + 11 + p)), some (xI (o : Int)), some (xI (x : Int)), some (xI (osd S x)), some (xI ((y + 1 : Nat) : Int))] [] ρ1 Q
        rw [e_9_54]
        simp only [brI, not_true_eq_false, true_implies, false_implies, implies_true, and_true, cTag, cTgt, cLen, true_and, Int.toNat_natCast, retI_I, retR_R, retV_N, retL_L, ne_eq, Int.reduceEq, not_false_eq_true, e0, x_isIn, bI_0, hhf, x_over2 hRr hS hLr hp hx hy, e1, nx]
        rw [if_neg (by clear cs; omega), if_neg (fun q => q (hbit.mpr cs.1)), if_neg (fun q => q cs.2)]
      · have u : sec S p o x e (y + 1) = sec S p o x e y := if_neg cs
        rw [← u] at hH
        refine ⟨ρ, fun Q => ?_, hF, hH⟩
        show X L 9 54 [some (xR 38), some (xR 1), some (xR 36), some (xR (1 + 11 + p)), some (xI (o : Int)), some (xI (x : Int)), some (xI (osd S x)), some (xI (y : Int))] [] ρ Q = X L 9 54 [some (xR 38), some (xR 1), some (xR 36), some (xR (1 + 11 + p)), some (xI (o : Int)), some (xI (x : Int)), some (xI (osd S x)), some (xI ((y + 1 : Nat) : Int))] [] ρ Q
        rw [e_9_54]
        simp only [brI, not_true_eq_false, true_implies, false_implies, implies_true, and_true, cTag, cTgt, cLen, true_and, Int.toNat_natCast, retI_I, retR_R, retV_N, retL_L, ne_eq, Int.reduceEq, not_false_eq_true, e0, x_isIn, bI_0, hhf, nx]
        rw [if_neg (by clear cs; omega)]
        by_cases cb : bit (o : Int) (y : Int)
        · rw [if_neg (fun q => q cb), if_pos (fun q => cs ⟨hbit.mp cb, q⟩)]
        · rw [if_pos cb]) (a := σ) ⟨FrE.rf, he⟩
    refine ⟨τ, fun Q => ?_, hF, hH⟩
    have hRt := RC_E hR hF
    have e1 : ∀ Q : PQ, X L 9 54 [some (xR 38), some (xR 1), some (xR 36), some (xR (1 + 11 + p)), some (xI (o : Int)), some (xI (x : Int)), some (xI (osd S x)), some (xI 0)] [] σ Q = X L 9 54 [some (xR 38), some (xR 1), some (xR 36), some (xR (1 + 11 + p)), some (xI (o : Int)), some (xI (x : Int)), some (xI (osd S x)), some (xI (n : Int))] [] τ Q := e1
    have e54 : X L 9 54 [some (xR 38), some (xR 1), some (xR 36), some (xR (1 + 11 + p)), some (xI (o : Int)), some (xI (x : Int)), some (xI (osd S x)), some (xI 0)] [] σ Q = Q none τ := by
      rw [e1, e_9_54]
      simp only [brI, not_true_eq_false, true_implies, false_implies, implies_true, and_true, cTag, cTgt, cLen, true_and, Int.toNat_natCast, retI_I, retR_R, retV_N, retL_L, ne_eq, Int.reduceEq, not_false_eq_true, hRt.1 0 (by omega)]
      rw [if_pos (by omega), e_9_112]
    have hsd := fun Q => x_sideAt (L := L) iV1 hR (x : Int) Q
    rw [g1_at (show x < 6 by omega)] at hsd
    rw [e_9_0]
    simp only [brI, not_true_eq_false, true_implies, false_implies, implies_true, and_true, cTag, cTgt, cLen, true_and, Int.toNat_natCast, retI_I, retR_R, retV_N, retL_L, ne_eq, Int.reduceEq, not_false_eq_true, gt_p iV1 p1, r6, r7, c6, c7, if_true, if_false, e_9_34, hsd, e_9_48, e_9_49]
    by_cases c4 : S 4 x = 1
    · have : osd S x = 2 := if_pos c4
      rw [this] at e54
      rw [if_neg (fun q => q c4)]; exact e54
    · have : osd S x = 1 := if_neg c4
      rw [this] at e54
      rw [if_pos c4]; exact e54
theorem x_plan (hR : RC 1 S σ) (hS : VS B S) (hB : B ≤ 1000000) (hL : LdC S σ) {p n o : Nat} (hp : PsV S p n) (ho : o < 64) : ∃ τ, (∀ Q : PQ, X L 8 0 [some (xR 38), some (xR 1), some (xR 36), some (xR (1 + 11 + p)), some (xI (o : Int)), none, none, none] [] σ Q = Q none τ) ∧ FrE σ τ ∧ HE τ (shd S p o n) := by
  obtain ⟨p1, p2, p3, p4, p5, p6⟩ := id hp
  have hn6 := hS.1
  obtain ⟨a1, a2, a3, a4, a5, a6, a7, a8, a9, a10, a11, a12⟩ := hS.p p1
  obtain ⟨σ0, hσ0⟩ : ∃ σ0, up (up (up (up σ 38 0 (-6)) 38 1 (-6)) 38 2 (-6)) 38 3 (-6) = σ0 := ⟨_, rfl⟩
  have F0 : FrE σ σ0 := by
    refine ⟨fun o ho => ?_, fun j hj => ?_⟩
    · funext j; rw [← hσ0]; simp only [up_rd]; rw [if_neg (by omega), if_neg (by omega), if_neg (by omega), if_neg (by omega)]
    · rw [← hσ0]; simp only [up_rd]; rw [if_neg (by omega), if_neg (by omega), if_neg (by omega), if_neg (by omega)]
  have H0 : HE σ0 (fun _ => -6) := by
    intro j hj; rw [← hσ0]
    rcases (show j = 0 ∨ j = 1 ∨ j = 2 ∨ j = 3 by omega) with rfl | rfl | rfl | rfl <;> simp [up_rd]
  have hR0 := RC_E hR F0
  have hL0 := LdC_E hL F0
  have r6 := hR0.p p1 (f := 6) (by omega)
  have r7 := hR0.p p1 (f := 7) (by omega)
  unfold shd
  by_cases c : ¬ S (8 + p) 6 = 0 ∧ ¬ S (8 + p) 7 = 0
  · rw [if_pos c]
    have r1 := hR0.p p1 (f := 1) (by omega)
    have r2 := hR0.p p1 (f := 2) (by omega)
    have e2 := hR0.1 2 (by omega)
    have hl := fun Q => x_limps (L := L) (σ := σ0) (gt_p iV1 p1) (S 0 2) hS.2.2.1.1 (by rw [hR0.p p1 (by omega)]; omega) (by rw [hR0.p p1 (by omega)]; omega) Q
    rw [bI_c (RC_lmp hR0 p1 (S 0 2))] at hl
    obtain ⟨l, hle, hl2⟩ := bI_n (lmp (S (8 + p)) (S 0 2))
    rw [hle] at hl ⊢
    have m1 := fun Q => x_milesBt (L := L) hS hL0 (l := l) (a := aT S p) (b := aH S p) hl2 (by omega) (by omega) Q
    have hb := dd_b hS l (aT S p) (aH S p)
    obtain ⟨τ, e1, hF, hH⟩ := x_offer (L := L) hR0 hS p1 (-6) (-6) (dd S l (aT S p) (aH S p)) (by omega) H0
    have g5 : g1 S 5 6 (-6) + g1 S 5 6 (-6) = 0 := by unfold g1; rw [if_neg (by omega)]; omega
    rw [g5] at hH
    refine ⟨τ, fun Q => ?_, F0.tr hF, hH⟩
    rw [e_8_0]
    simp only [brI, not_true_eq_false, true_implies, false_implies, implies_true, and_true, cTag, cTgt, cLen, true_and, Int.toNat_natCast, retI_I, retR_R, retV_N, retL_L, ne_eq, Int.reduceEq, not_false_eq_true, gt_p iV1 p1, hσ0, r6, r7, c.1, c.2, if_false, e2, hl, r2, r1, p5, p6, m1, e1]
  · rw [if_neg c]
    obtain ⟨⟨τ, d6, d7⟩, e1, hF, hH⟩ := lpE (n := n) (fun x (y : Mem × Option PV × Option PV) Q => X L 8 76 [some (xR 38), some (xR 1), some (xR 36), some (xR (1 + 11 + p)), some (xI (o : Int)), some (xI (x : Int)), y.2.1, y.2.2] [] y.1 Q) (fun x y => FrE σ y.1 ∧ HE y.1 (plE S p o n x)) (by
      intro x ⟨ρ, d6, d7⟩ hx ⟨hF, hH⟩
      have hF : FrE σ ρ := hF
      have hH : HE ρ (plE S p o n x) := hH
      have hRr := RC_E hR hF
      have hLr := LdC_E hL hF
      have e0 := hRr.1 0 (by omega)
      have hbit := bit_n (a := o) (k := x) (by omega) (by omega)
      have g6 : ρ (1 + 11 + p) 6 = 0 ∨ ρ (1 + 11 + p) 6 = 1 := by rw [hRr.p p1 (by omega)]; exact a7
      have g7 : ρ (1 + 11 + p) 7 = 0 ∨ ρ (1 + 11 + p) 7 = 1 := by rw [hRr.p p1 (by omega)]; exact a8
      have hw : ∀ s, wrs (ρ (1 + 11 + p)) s = wrs (S (8 + p)) s := by
        intro s; unfold wrs; rw [hRr.p p1 (by omega), hRr.p p1 (by omega)]
      have hwr := fun s Q => x_wears (L := L) (gt_p iV1 p1) s g6 g7 Q
      have hsd := fun Q => x_sideAt (L := L) iV1 hRr (x : Int) Q
      have hhf := fun s Q => x_hasFor (L := L) iV1 hRr p1 hS (x : Int) s (by omega) none Q
      rw [g1_at (show x < 6 by omega)] at hsd hhf
      have nx : ∀ (ρ : Mem) (a b : Int) (Q : PQ), X L 8 152 [some (xR 38), some (xR 1), some (xR 36), some (xR (1 + 11 + p)), some (xI (o : Int)), some (xI (x : Int)), some (xI a), some (xI b)] [] ρ Q = X L 8 76 [some (xR 38), some (xR 1), some (xR 36), some (xR (1 + 11 + p)), some (xI (o : Int)), some (xI ((x + 1 : Nat) : Int)), some (xI a), some (xI b)] [] ρ Q := by
        intro ρ a b Q; rw [e_8_152, w32_id (by omega) (by omega)]; rfl
      have hd : ∀ Q : PQ, X L 8 76 [some (xR 38), some (xR 1), some (xR 36), some (xR (1 + 11 + p)), some (xI (o : Int)), some (xI (x : Int)), d6, d7] [] ρ Q = X L 8 113 [some (xR 38), some (xR 1), some (xR 36), some (xR (1 + 11 + p)), some (xI (o : Int)), some (xI (x : Int)), some (xI (S 4 x)), d7] [xI (bI (bit (o : Int) (x : Int) ∧ ¬ S 4 x = 0))] ρ Q := by
        intro Q
        rw [e_8_76]
        simp only [brI, not_true_eq_false, true_implies, false_implies, implies_true, and_true, cTag, cTgt, cLen, true_and, Int.toNat_natCast, retI_I, retR_R, retV_N, retL_L, ne_eq, Int.reduceEq, not_false_eq_true, e0, x_isIn, bI_0, hsd, e_8_112]
        rw [if_neg (by omega)]
        by_cases cb : bit (o : Int) (x : Int)
        · rw [if_neg (fun q => q cb)]
          by_cases cz : S 4 x = 0
          · rw [if_pos cz, bI_f (fun q => q.2 cz)]
          · rw [if_neg cz, bI_t ⟨cb, cz⟩]
        · rw [if_pos cb, bI_f (fun q => cb q.1)]
      by_cases cp : plC S p o x
      · have u : plE S p o n (x + 1) = (if one S p then ofE S p (S 5 x) (d1 S p x) (x : Int) (-6) (plE S p o n x) else sec S p o x (plE S p o n x) n) := if_pos cp
        obtain ⟨ρ1, e1, hF1, hH1⟩ := x_planFrom (L := L) hRr hS hB hLr hp hx ho hH
        rw [← u] at hH1
        refine ⟨(ρ1, some (xI (S 4 x)), some (xI 1)), fun Q => ?_, hF.tr hF1, hH1⟩
        show X L 8 76 [some (xR 38), some (xR 1), some (xR 36), some (xR (1 + 11 + p)), some (xI (o : Int)), some (xI (x : Int)), d6, d7] [] ρ Q = X L 8 76 [some (xR 38), some (xR 1), some (xR 36), some (xR (1 + 11 + p)), some (xI (o : Int)), some (xI ((x + 1 : Nat) : Int)), some (xI (S 4 x)), some (xI 1)] [] ρ1 Q
        rw [hd, bI_t ⟨hbit.mpr cp.2.2.1, cp.1⟩, e_8_113]
        simp only [brI, not_true_eq_false, true_implies, false_implies, implies_true, and_true, cTag, cTgt, cLen, true_and, Int.toNat_natCast, retI_I, retR_R, retV_N, retL_L, ne_eq, Int.reduceEq, not_false_eq_true, Int.reduceEq, if_false, gt_p iV1 p1, hwr, hw, hhf, bI_0, e1, nx]
        rw [if_neg (fun q => q cp.2.1), if_neg (fun q => q cp.2.2.2.2)]
      · have u : plE S p o n (x + 1) = plE S p o n x := if_neg cp
        rw [← u] at hH
        refine ⟨(ρ, some (xI (S 4 x)), some (xI (bI (bit (o : Int) (x : Int) ∧ ¬ S 4 x = 0)))), fun Q => ?_, hF, hH⟩
        show X L 8 76 [some (xR 38), some (xR 1), some (xR 36), some (xR (1 + 11 + p)), some (xI (o : Int)), some (xI (x : Int)), d6, d7] [] ρ Q = X L 8 76 [some (xR 38), some (xR 1), some (xR 36), some (xR (1 + 11 + p)), some (xI (o : Int)), some (xI ((x + 1 : Nat) : Int)), some (xI (S 4 x)), some (xI (bI (bit (o : Int) (x : Int) ∧ ¬ S 4 x = 0)))] [] ρ Q
        rw [hd, e_8_113]
        simp only [brI, not_true_eq_false, true_implies, false_implies, implies_true, and_true, cTag, cTgt, cLen, true_and, Int.toNat_natCast, retI_I, retR_R, retV_N, retL_L, ne_eq, Int.reduceEq, not_false_eq_true, gt_p iV1 p1, hwr, hw, hhf, bI_0, nx]
        by_cases cb : bit (o : Int) (x : Int) ∧ ¬ S 4 x = 0
        · rw [if_neg (fun q => q cb)]
          by_cases cw : wrs (S (8 + p)) (S 4 x) = 0
          · rw [if_neg (fun q => q cw), if_pos (fun q => cp ⟨cb.2, cw, hbit.mp cb.1, rfl, q⟩)]
          · rw [if_pos cw]
        · rw [if_pos cb]) (a := (σ0, none, none)) ⟨F0, H0⟩
    have hH : HE τ (plE S p o n n) := hH
    have hF : FrE σ τ := hF
    have hRt := RC_E hR hF
    refine ⟨τ, fun Q => ?_, hF, hH⟩
    have e1 : ∀ Q : PQ, X L 8 76 [some (xR 38), some (xR 1), some (xR 36), some (xR (1 + 11 + p)), some (xI (o : Int)), some (xI 0), none, none] [] σ0 Q = X L 8 76 [some (xR 38), some (xR 1), some (xR 36), some (xR (1 + 11 + p)), some (xI (o : Int)), some (xI (n : Int)), d6, d7] [] τ Q := e1
    have e73 : X L 8 73 [some (xR 38), some (xR 1), some (xR 36), some (xR (1 + 11 + p)), some (xI (o : Int)), none, none, none] [] σ0 Q = Q none τ := by
      rw [e_8_73, e1, e_8_76]
      simp only [brI, not_true_eq_false, true_implies, false_implies, implies_true, and_true, cTag, cTgt, cLen, true_and, Int.toNat_natCast, retI_I, retR_R, retV_N, retL_L, ne_eq, Int.reduceEq, not_false_eq_true, hRt.1 0 (by omega)]
      rw [if_pos (by omega), e_8_158]
    rw [e_8_0]
    simp only [brI, not_true_eq_false, true_implies, false_implies, implies_true, and_true, cTag, cTgt, cLen, true_and, Int.toNat_natCast, retI_I, retR_R, retV_N, retL_L, ne_eq, Int.reduceEq, not_false_eq_true, gt_p iV1 p1, hσ0, r6, r7]
    by_cases c6 : S (8 + p) 6 = 0
    · rw [if_pos c6]; exact e73
    · have c7 : S (8 + p) 7 = 0 := Classical.byContradiction (fun q => c ⟨c6, q⟩)
      rw [if_neg c6, if_pos c7]; exact e73
end Shod
