/-! TOGETHER, the Model -/
section MFetch
variable {B : Int} {S σ τ : Mem} {L v : Nat} {T : Ful}
/-- what the Model keeps of the fold -/
def mdl (e : Er) (r : Int × Int × Int) : Prop := ((e 0 = -6 ∧ r.1 = 1000000) ∨ (0 ≤ e 0 ∧ e 0 < 1000000 ∧ r.1 = e 0)) ∧ r.2.1 = e 1 ∧ r.2.2 = e 2
theorem mdl_y {e : Er} {r : Int × Int × Int} (h : mdl e r) {d z a b : Int} (hd : 0 ≤ d) (hz : z = d ∨ (1000000 ≤ d ∧ 1000000 ≤ z)) : mdl (fof d a b e) (if r.1 ≤ z then r else (z, a, b)) := by
  obtain ⟨h1, h2, h3⟩ := id h
  by_cases c : foC d e
  · have hof : fof d a b e = (fun j => if j = 0 then d else if j = 1 then a else b) := if_pos c
    obtain ⟨c1, c2⟩ := c
    rw [hof, if_neg (by omega)]
    exact ⟨Or.inr ⟨hd, c1, by show z = d; omega⟩, rfl, rfl⟩
  · have hof : fof d a b e = e := if_neg c
    rw [hof]
    have : r.1 ≤ z := by
      by_cases c1 : d < 1000000
      · have c2 : ¬ (e 0 = -6 ∨ d < e 0) := fun q => c ⟨c1, q⟩
        omega
      · omega
    rw [if_pos this]; exact h
theorem x_innM (hS : VS B S) (hL : LdF S σ) {m x y a : Nat} (hm : m < 16) (hx : x < 6) (hy : y < 6) (ha : a < 4) (w : Int) (hh : ∀ p, p < 4 → m.testBit p = true → σ 82 p = (fhm S p : Int)) (r : Int × Int × Int) (d10 d11 d12 : Option PV) {e : Er} (he : mdl e r) : ∃ r' c10 c11 c12, (∀ Q : PQ, X L 189 80 [some (xR 75), some (xI (m : Int)), some (xI (x : Int)), some (xI (y : Int)), some (xI w), some (xI r.1), some (xI r.2.1), some (xI r.2.2), some (xI (a : Int)), some (xI 0), d10, d11, d12] [] σ Q = X L 189 210 [some (xR 75), some (xI (m : Int)), some (xI (x : Int)), some (xI (y : Int)), some (xI w), some (xI r'.1), some (xI r'.2.1), some (xI r'.2.2), some (xI (a : Int)), some (xI 4), c10, c11, c12] [] σ Q) ∧ mdl (inn S m x y a e 4) r' := by
  have hn6 := hS.1
  have hba := bit_n (a := m) (k := a) (by omega) (by omega)
  obtain ⟨ga, ga2⟩ := fhm_in hS ha
  obtain ⟨⟨r', c10, c11, c12⟩, e1, hH⟩ := lpE (n := 4) (fun b (z : (Int × Int × Int) × Option PV × Option PV × Option PV) Q => X L 189 80 [some (xR 75), some (xI (m : Int)), some (xI (x : Int)), some (xI (y : Int)), some (xI w), some (xI z.1.1), some (xI z.1.2.1), some (xI z.1.2.2), some (xI (a : Int)), some (xI (b : Int)), z.2.1, z.2.2.1, z.2.2.2] [] σ Q) (fun b z => mdl (inn S m x y a e b) z.1) (by
    intro b ⟨r, d10, d11, d12⟩ hb hH
    have hH : mdl (inn S m x y a e b) r := hH
    have hbb := bit_n (a := m) (k := b) (by omega) (by omega)
    obtain ⟨gb, gb2⟩ := fhm_in hS hb
    have nx : ∀ (a5 a6 a7 : Int) (d10 d11 d12 : Option PV) (Q : PQ), X L 189 204 [some (xR 75), some (xI (m : Int)), some (xI (x : Int)), some (xI (y : Int)), some (xI w), some (xI a5), some (xI a6), some (xI a7), some (xI (a : Int)), some (xI (b : Int)), d10, d11, d12] [] σ Q = X L 189 80 [some (xR 75), some (xI (m : Int)), some (xI (x : Int)), some (xI (y : Int)), some (xI w), some (xI (a5, a6, a7).1), some (xI (a5, a6, a7).2.1), some (xI (a5, a6, a7).2.2), some (xI (a : Int)), some (xI ((b + 1 : Nat) : Int)), d10, d11, d12] [] σ Q := by
      intro a5 a6 a7 d10 d11 d12 Q; rw [e_189_204, w32_id (by omega) (by omega)]; rfl
    by_cases cs : fin m a b
    · have u : inn S m x y a e (b + 1) = fof (ff S x y a b) (a : Int) (b : Int) (inn S m x y a e b) := if_pos cs
      have mi := fun (s t : Nat) (h1 : s < 6) (h2 : t < 6) Q => x_farOf (L := L) hS hL (l := 0) (a := s) (b := t) (by omega) h1 h2 Q
      have mi : ∀ (s t : Nat) (h1 : s < 6) (h2 : t < 6) (Q : PQ), X L 177 0 [some (xR 75), some (xI (s : Int)), some (xI (t : Int)), some (xI 0), none] [] σ Q = Q (some (xI (dd S 0 s t))) σ := mi
      have b1 := dd_b hS 0 (fhm S a) x
      have b2 := dd_b hS 0 x y
      have b3 := dd_b hS 0 y (fhm S a)
      have b4 := dd_b hS 0 (fhm S b) y
      have fb := ff_b hS x y a b
      have ha82 := hh a ha cs.1
      have hb82 := hh b hb cs.2
      have e183 : ∀ (z : Int) (Q : PQ), X L 189 183 [some (xR 75), some (xI (m : Int)), some (xI (x : Int)), some (xI (y : Int)), some (xI w), some (xI r.1), some (xI r.2.1), some (xI r.2.2), some (xI (a : Int)), some (xI (b : Int)), some (xI (dd S 0 (fhm S a) x)), some (xI (dd S 0 (fhm S b) y)), d12] [xI z] σ Q = X L 189 80 [some (xR 75), some (xI (m : Int)), some (xI (x : Int)), some (xI (y : Int)), some (xI w), some (xI (if r.1 ≤ z then r else (z, (a : Int), (b : Int))).1), some (xI (if r.1 ≤ z then r else (z, (a : Int), (b : Int))).2.1), some (xI (if r.1 ≤ z then r else (z, (a : Int), (b : Int))).2.2), some (xI (a : Int)), some (xI ((b + 1 : Nat) : Int)), some (xI (dd S 0 (fhm S a) x)), some (xI (dd S 0 (fhm S b) y)), some (xI z)] [] σ Q := by
        intro z Q
        rw [e_189_183]
        simp only [brI, not_true_eq_false, true_implies, false_implies, implies_true, and_true, cTag, cTgt, cLen, true_and, Int.toNat_natCast, retI_I, retR_R, retV_N, retL_L, ne_eq, Int.reduceEq, not_false_eq_true, nx]
        by_cases c : r.1 ≤ z
        · rw [if_pos c, if_pos c]
        · rw [if_neg c, if_neg c]
      obtain ⟨z, hz, e80⟩ : ∃ z, (z = ff S x y a b ∨ (1000000 ≤ ff S x y a b ∧ 1000000 ≤ z)) ∧ ∀ Q : PQ, X L 189 80 [some (xR 75), some (xI (m : Int)), some (xI (x : Int)), some (xI (y : Int)), some (xI w), some (xI r.1), some (xI r.2.1), some (xI r.2.2), some (xI (a : Int)), some (xI (b : Int)), d10, d11, d12] [] σ Q = X L 189 183 [some (xR 75), some (xI (m : Int)), some (xI (x : Int)), some (xI (y : Int)), some (xI w), some (xI r.1), some (xI r.2.1), some (xI r.2.2), some (xI (a : Int)), some (xI (b : Int)), some (xI (dd S 0 (fhm S a) x)), some (xI (dd S 0 (fhm S b) y)), d12] [xI z] σ Q := by
        have t1 : ∀ Q : PQ, X L 177 0 [some (xR 75), some (xI (σ 82 a)), some (xI (x : Int)), some (xI 0), none] [] σ Q = Q (some (xI (dd S 0 (fhm S a) x))) σ := by
          rw [ha82]; exact mi _ _ (by omega) hx
        have t2 : ∀ Q : PQ, X L 177 0 [some (xR 75), some (xI (σ 82 b)), some (xI (y : Int)), some (xI 0), none] [] σ Q = Q (some (xI (dd S 0 (fhm S b) y))) σ := by
          rw [hb82]; exact mi _ _ (by omega) hy
        by_cases c : a = b
        · have hff : ff S x y a b = dd S 0 (fhm S a) x + dd S 0 x y + dd S 0 (fhm S b) y := by
            unfold ff; rw [if_pos c, ← c, dd_sym hS 0 y (fhm S a)]
          have s1 := sat_b (a := dd S 0 x y) (b := dd S 0 (fhm S b) y) (by omega) (by omega)
          have s2 := sat_b (a := dd S 0 (fhm S a) x) (b := sat (dd S 0 x y) (dd S 0 (fhm S b) y)) (by omega) (by omega)
          refine ⟨sat (dd S 0 (fhm S a) x) (sat (dd S 0 x y) (dd S 0 (fhm S b) y)), by omega, fun Q => ?_⟩
          rw [e_189_80]
          simp only [brI, not_true_eq_false, true_implies, false_implies, implies_true, and_true, cTag, cTgt, cLen, true_and, Int.toNat_natCast, retI_I, retR_R, retV_N, retL_L, ne_eq, Int.reduceEq, not_false_eq_true, x_has, bI_0, show (0 ≤ (a : Int) ∧ (a : Int) < 4) by omega, show (0 ≤ (b : Int) ∧ (b : Int) < 4) by omega, t1, t2, mi x y hx hy, x_sum (dd S 0 x y) (dd S 0 (fhm S b) y) (by omega) (by omega), x_sum (dd S 0 (fhm S a) x) (sat (dd S 0 x y) (dd S 0 (fhm S b) y)) (by omega) (by omega)]
          rw [if_neg (by omega), if_neg (fun q => q (hba.mpr cs.1)), if_neg (fun q => q (hbb.mpr cs.2)), if_neg (fun q => q (by omega))]
        · have hff : ff S x y a b = 2 * dd S 0 (fhm S a) x + 2 * dd S 0 (fhm S b) y := if_neg c
          have s1 := sat_b (a := dd S 0 (fhm S a) x) (b := dd S 0 (fhm S a) x) (by omega) (by omega)
          have s2 := sat_b (a := dd S 0 (fhm S b) y) (b := dd S 0 (fhm S b) y) (by omega) (by omega)
          have s3 := sat_b (a := sat (dd S 0 (fhm S a) x) (dd S 0 (fhm S a) x)) (b := sat (dd S 0 (fhm S b) y) (dd S 0 (fhm S b) y)) (by omega) (by omega)
          refine ⟨sat (sat (dd S 0 (fhm S a) x) (dd S 0 (fhm S a) x)) (sat (dd S 0 (fhm S b) y) (dd S 0 (fhm S b) y)), by omega, fun Q => ?_⟩
          rw [e_189_80]
          simp only [brI, not_true_eq_false, true_implies, false_implies, implies_true, and_true, cTag, cTgt, cLen, true_and, Int.toNat_natCast, retI_I, retR_R, retV_N, retL_L, ne_eq, Int.reduceEq, not_false_eq_true, x_has, bI_0, show (0 ≤ (a : Int) ∧ (a : Int) < 4) by omega, show (0 ≤ (b : Int) ∧ (b : Int) < 4) by omega, t1, t2, e_189_163, x_sum (dd S 0 (fhm S a) x) (dd S 0 (fhm S a) x) (by omega) (by omega), x_sum (dd S 0 (fhm S b) y) (dd S 0 (fhm S b) y) (by omega) (by omega), x_sum (sat (dd S 0 (fhm S a) x) (dd S 0 (fhm S a) x)) (sat (dd S 0 (fhm S b) y) (dd S 0 (fhm S b) y)) (by omega) (by omega)]
          rw [if_neg (by omega), if_neg (fun q => q (hba.mpr cs.1)), if_neg (fun q => q (hbb.mpr cs.2)), if_pos (by omega)]
      have hH1 := mdl_y hH (a := (a : Int)) (b := (b : Int)) fb.1 hz
      rw [← u] at hH1
      exact ⟨(if r.1 ≤ z then r else (z, (a : Int), (b : Int)), some (xI (dd S 0 (fhm S a) x)), some (xI (dd S 0 (fhm S b) y)), some (xI z)), fun Q => (e80 Q).trans (e183 z Q), hH1⟩
    · have u : inn S m x y a e (b + 1) = inn S m x y a e b := if_neg cs
      rw [← u] at hH
      refine ⟨(r, d10, d11, d12), fun Q => ?_, hH⟩
      show X L 189 80 [some (xR 75), some (xI (m : Int)), some (xI (x : Int)), some (xI (y : Int)), some (xI w), some (xI r.1), some (xI r.2.1), some (xI r.2.2), some (xI (a : Int)), some (xI (b : Int)), d10, d11, d12] [] σ Q = X L 189 80 [some (xR 75), some (xI (m : Int)), some (xI (x : Int)), some (xI (y : Int)), some (xI w), some (xI r.1), some (xI r.2.1), some (xI r.2.2), some (xI (a : Int)), some (xI ((b + 1 : Nat) : Int)), d10, d11, d12] [] σ Q
      rw [e_189_80]
      simp only [brI, not_true_eq_false, true_implies, false_implies, implies_true, and_true, cTag, cTgt, cLen, true_and, Int.toNat_natCast, retI_I, retR_R, retV_N, retL_L, ne_eq, Int.reduceEq, not_false_eq_true, x_has, bI_0, nx]
      rw [if_neg (by omega)]
      by_cases c1 : bit (m : Int) (a : Int)
      · rw [if_neg (fun q => q c1), if_pos (fun q => cs ⟨hba.mp c1, hbb.mp q⟩)]
      · rw [if_pos c1]) (a := (r, d10, d11, d12)) he
  refine ⟨r', c10, c11, c12, fun Q => ?_, hH⟩
  refine Eq.trans (e1 Q) ?_
  show X L 189 80 [some (xR 75), some (xI (m : Int)), some (xI (x : Int)), some (xI (y : Int)), some (xI w), some (xI r'.1), some (xI r'.2.1), some (xI r'.2.2), some (xI (a : Int)), some (xI 4), c10, c11, c12] [] σ Q = _
  rw [e_189_80]
  simp only [brI, not_true_eq_false, true_implies, false_implies, implies_true, and_true, cTag, cTgt, cLen, true_and, Int.toNat_natCast, retI_I, retR_R, retV_N, retL_L, ne_eq, Int.reduceEq, not_false_eq_true, Int.le_refl, if_true]
theorem x_fetchM (hS : VS B S) (hL : LdF S σ) {m x y : Nat} (hm : m < 16) (hx : x < 6) (hy : y < 6) (w : Int) (hh : ∀ p, p < 4 → m.testBit p = true → σ 82 p = (fhm S p : Int)) : ∃ r c9 c10 c11 c12, (∀ Q : PQ, X L 189 71 [some (xR 75), some (xI (m : Int)), some (xI (x : Int)), some (xI (y : Int)), some (xI w), some (xI ((1000000 : Int), (-6 : Int), (-6 : Int)).1), some (xI ((1000000 : Int), (-6 : Int), (-6 : Int)).2.1), some (xI ((1000000 : Int), (-6 : Int), (-6 : Int)).2.2), some (xI 0), none, none, none, none] [] σ Q = X L 189 216 [some (xR 75), some (xI (m : Int)), some (xI (x : Int)), some (xI (y : Int)), some (xI w), some (xI r.1), some (xI r.2.1), some (xI r.2.2), some (xI 4), c9, c10, c11, c12] [] σ Q) ∧ mdl (fou S m x y 4) r := by
  obtain ⟨⟨r, c9, c10, c11, c12⟩, e1, hH⟩ := lpE (n := 4) (fun a (z : (Int × Int × Int) × Option PV × Option PV × Option PV × Option PV) Q => X L 189 71 [some (xR 75), some (xI (m : Int)), some (xI (x : Int)), some (xI (y : Int)), some (xI w), some (xI z.1.1), some (xI z.1.2.1), some (xI z.1.2.2), some (xI (a : Int)), z.2.1, z.2.2.1, z.2.2.2.1, z.2.2.2.2] [] σ Q) (fun a z => mdl (fou S m x y a) z.1) (by
    intro a ⟨r, d9, d10, d11, d12⟩ ha hH
    have hH : mdl (fou S m x y a) r := hH
    obtain ⟨r', c10, c11, c12, e1, hH1⟩ := x_innM (L := L) hS hL hm hx hy ha w hh r d10 d11 d12 hH
    refine ⟨(r', some (xI 4), c10, c11, c12), fun Q => ?_, hH1⟩
    show X L 189 71 [some (xR 75), some (xI (m : Int)), some (xI (x : Int)), some (xI (y : Int)), some (xI w), some (xI r.1), some (xI r.2.1), some (xI r.2.2), some (xI (a : Int)), d9, d10, d11, d12] [] σ Q = X L 189 71 [some (xR 75), some (xI (m : Int)), some (xI (x : Int)), some (xI (y : Int)), some (xI w), some (xI r'.1), some (xI r'.2.1), some (xI r'.2.2), some (xI ((a + 1 : Nat) : Int)), some (xI 4), c10, c11, c12] [] σ Q
    rw [e_189_71]
    simp only [brI]
    rw [if_neg (by omega), e1, e_189_210, w32_id (by omega) (by omega)]
    rfl) (a := ((1000000, -6, -6), none, none, none, none)) ⟨Or.inl ⟨rfl, rfl⟩, rfl, rfl⟩
  refine ⟨r, c9, c10, c11, c12, fun Q => ?_, hH⟩
  refine Eq.trans (e1 Q) ?_
  show X L 189 71 [some (xR 75), some (xI (m : Int)), some (xI (x : Int)), some (xI (y : Int)), some (xI w), some (xI r.1), some (xI r.2.1), some (xI r.2.2), some (xI 4), c9, c10, c11, c12] [] σ Q = _
  rw [e_189_71]
  simp only [brI, not_true_eq_false, true_implies, false_implies, implies_true, and_true, cTag, cTgt, cLen, true_and, Int.toNat_natCast, retI_I, retR_R, retV_N, retL_L, ne_eq, Int.reduceEq, not_false_eq_true, Int.le_refl, if_true]
theorem m_tog (hI : IM T σ) (hV : IV B T) {m x y w : Int} (hm : -2147483648 ≤ m ∧ m < 2147483648) : MO σ (X L 189 0 [some (xR 75), some (xI m), some (xI x), some (xI y), some (xI w), none, none, none, none, none, none, none, none] [] σ) (a_tog T m x y w) T := by
  have hn := hV.1.1
  have hw6 : 2 ≤ σ 75 0 ∧ σ 75 0 ≤ 6 := by rw [hI.tw]; exact hn
  have e9 : σ 75 9 = thb (T 0) := hI.th
  obtain ⟨k, hk, hk16, hkb⟩ := thb_n hV.1
  unfold a_tog
  by_cases c : isT T x ∧ isT T y
  · obtain ⟨c1, c2⟩ := id c
    rw [if_pos c]
    by_cases c3 : (0 ≤ w ∧ w ≤ 2) ∧ ¬ m = 0 ∧ and32 m (xor32 (thb (T 0)) (-1)) = 0
    · rw [if_pos c3]
      obtain ⟨cw, cm, ca⟩ := c3
      obtain ⟨m, rfl, hm16, hmb⟩ := sub_sm hm hk16 (by rw [← hk]; exact ca)
      obtain ⟨x, rfl⟩ : ∃ a : Nat, x = (a : Int) := ⟨x.toNat, by omega⟩
      obtain ⟨y, rfl⟩ : ∃ a : Nat, y = (a : Int) := ⟨y.toNat, by omega⟩
      obtain ⟨w, rfl⟩ : ∃ a : Nat, w = (a : Int) := ⟨w.toNat, by omega⟩
      simp only [Int.toNat_natCast]
      obtain ⟨τ, e, hF, hQ, hI1, hL⟩ := m_lay (L := L) hI hV
      obtain ⟨r, c9, c10, c11, c12, e1, ⟨hr, hr1, hr2⟩⟩ := x_fetchM (L := L) hV.1 hL hm16 (show x < 6 by omega) (show y < 6 by omega) (w : Int) (fun p hp hb => (hI1.1.pp p hp ((hkb p hp).mp (hmb p hb))).ho.trans (fhm_in hV.1 hp).1)
      simp only at e1
      have cm2 : (1 ≤ (m : Int) ∧ (m : Int) ≤ 15) := by omega
      refine MO_q hI ⟨τ, fun Q => ?_, hQ⟩
      simp only [e_189_0, e_189_18, e_189_52, brI, not_true_eq_false, true_implies, false_implies, implies_true, and_true, cTag, cTgt, cLen, true_and, Int.toNat_natCast, retI_I, retR_R, retV_N, retL_L, ne_eq, Int.reduceEq, not_false_eq_true, x_isTownM L _ _ _ hw6, x_in, bI_0, hI.tw, c1, c2, cw, cm2, e9, ca, e, e1, if_true, if_false, and_self, e_189_216, e_189_227, e_189_238, e_189_250, e_189_252, hr1, hr2]
      rcases (show w = 0 ∨ w = 1 ∨ w = 2 by omega) with rfl | rfl | rfl
      · rw [if_pos (by omega), if_pos (by omega)]
        rcases hr with ⟨h1, h2⟩ | ⟨h1, h2, h3⟩
        · rw [if_pos (by omega), h1]
        · rw [if_neg (by omega), h3]
      · simp
      · simp
    · rw [if_neg c3]
      refine MO_n hI (fun Q => ?_)
      simp only [e_189_0, e_189_18, brI, not_true_eq_false, true_implies, false_implies, implies_true, and_true, cTag, cTgt, cLen, true_and, Int.toNat_natCast, retI_I, retR_R, retV_N, retL_L, ne_eq, Int.reduceEq, not_false_eq_true, x_isTownM L _ _ _ hw6, x_in, bI_0, hI.tw, c1, c2, e9, if_true, if_false, and_self, e_189_49]
      by_cases cw : 0 ≤ w ∧ w ≤ 2
      · by_cases cm : 1 ≤ m ∧ m ≤ 15
        · have ca : ¬ and32 m (xor32 (thb (T 0)) (-1)) = 0 := fun q => c3 ⟨cw, by omega, q⟩
          simp only [cw, cm, ca, brI, not_true_eq_false, true_implies, false_implies, implies_true, and_true, cTag, cTgt, cLen, true_and, Int.toNat_natCast, retI_I, retR_R, retV_N, retL_L, ne_eq, Int.reduceEq, not_false_eq_true, if_true, if_false, and_self]
        · simp only [cw, cm, brI, not_true_eq_false, true_implies, false_implies, implies_true, and_true, cTag, cTgt, cLen, true_and, Int.toNat_natCast, retI_I, retR_R, retV_N, retL_L, ne_eq, Int.reduceEq, not_false_eq_true, if_true, if_false, and_self]
      · simp only [cw, brI, not_true_eq_false, true_implies, false_implies, implies_true, and_true, cTag, cTgt, cLen, true_and, Int.toNat_natCast, retI_I, retR_R, retV_N, retL_L, ne_eq, Int.reduceEq, not_false_eq_true, if_true, if_false]
  · rw [if_neg c]
    refine MO_n hI (fun Q => ?_)
    simp only [e_189_0, e_189_16, brI, not_true_eq_false, true_implies, false_implies, implies_true, and_true, cTag, cTgt, cLen, true_and, Int.toNat_natCast, retI_I, retR_R, retV_N, retL_L, ne_eq, Int.reduceEq, not_false_eq_true, x_isTownM L _ _ _ hw6, bI_0, hI.tw]
    by_cases c1 : isT T x
    · have c2 : ¬ isT T y := fun q => c ⟨c1, q⟩
      simp only [c1, c2, brI, not_true_eq_false, true_implies, false_implies, implies_true, and_true, cTag, cTgt, cLen, true_and, Int.toNat_natCast, retI_I, retR_R, retV_N, retL_L, ne_eq, Int.reduceEq, not_false_eq_true, if_true, if_false, and_self]
    · simp only [c1, brI, not_true_eq_false, true_implies, false_implies, implies_true, and_true, cTag, cTgt, cLen, true_and, Int.toNat_natCast, retI_I, retR_R, retV_N, retL_L, ne_eq, Int.reduceEq, not_false_eq_true, if_true, if_false]
end MFetch
