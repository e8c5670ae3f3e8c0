/-! TOGETHER, the class -/
section CFetch
variable {B : Int} {S σ τ : Mem} {L v : Nat} {T : Ful}
theorem fhm_in (hS : VS B S) {a : Nat} (ha : a < 4) : S (8 + a) 1 = (fhm S a : Int) ∧ (fhm S a : Int) < S 0 0 := by
  obtain ⟨-, a2, -⟩ := hS.p ha
  unfold fhm; omega
theorem x_inn (hR : RC 1 S σ) (hS : VS B S) (hL : LdC S σ) {m x y a : Nat} (hm : m < 16) (hx : (x : Int) < S 0 0) (hy : (y : Int) < S 0 0) (ha : a < 4) (d8 d9 d10 : Option PV) {e : Er} (he : H3 σ e) : ∃ τ c8 c9 c10, (∀ Q : PQ, X L 16 30 [some (xR 42), some (xR 1), some (xR 36), some (xI (m : Int)), some (xI (x : Int)), some (xI (y : Int)), some (xI (a : Int)), some (xI 0), d8, d9, d10] [] σ Q = X L 16 126 [some (xR 42), some (xR 1), some (xR 36), some (xI (m : Int)), some (xI (x : Int)), some (xI (y : Int)), some (xI (a : Int)), some (xI 4), c8, c9, c10] [] τ Q) ∧ Fr3 σ τ ∧ H3 τ (inn S m x y a e 4) := by
  have hn6 := hS.1
  have hba := bit_n (a := m) (k := a) (by omega) (by omega)
  obtain ⟨ga, ga2⟩ := fhm_in hS ha
  obtain ⟨⟨τ, c8, c9, c10⟩, e1, hF, hH⟩ := lpE (n := 4) (fun b (z : Mem × Option PV × Option PV × Option PV) Q => X L 16 30 [some (xR 42), some (xR 1), some (xR 36), some (xI (m : Int)), some (xI (x : Int)), some (xI (y : Int)), some (xI (a : Int)), some (xI (b : Int)), z.2.1, z.2.2.1, z.2.2.2] [] z.1 Q) (fun b z => Fr3 σ z.1 ∧ H3 z.1 (inn S m x y a e b)) (by
    intro b ⟨ρ, d8, d9, d10⟩ hb ⟨hF, hH⟩
    have hF : Fr3 σ ρ := hF
    have hH : H3 ρ (inn S m x y a e b) := hH
    have hRr := RC_3 hR hF
    have hLr := LdC_3 hL hF
    have hbb := bit_n (a := m) (k := b) (by omega) (by omega)
    obtain ⟨gb, gb2⟩ := fhm_in hS hb
    have nx : ∀ (ρ : Mem) (d8 d9 d10 : Option PV) (Q : PQ), X L 16 120 [some (xR 42), some (xR 1), some (xR 36), some (xI (m : Int)), some (xI (x : Int)), some (xI (y : Int)), some (xI (a : Int)), some (xI (b : Int)), d8, d9, d10] [] ρ Q = X L 16 30 [some (xR 42), some (xR 1), some (xR 36), some (xI (m : Int)), some (xI (x : Int)), some (xI (y : Int)), some (xI (a : Int)), some (xI ((b + 1 : Nat) : Int)), d8, d9, d10] [] ρ Q := by
      intro ρ d8 d9 d10 Q; rw [e_16_120, w32_id (by omega) (by omega)]; rfl
    by_cases cs : fin m a b
    · have u : inn S m x y a e (b + 1) = fof (ff S x y a b) (a : Int) (b : Int) (inn S m x y a e b) := if_pos cs
      have mi := fun (s t : Nat) (h1 : (s : Int) < S 0 0) (h2 : (t : Int) < S 0 0) Q => x_milesBt (L := L) hS hLr (l := 0) (a := s) (b := t) (by omega) h1 h2 Q
      have mi : ∀ (s t : Nat) (h1 : (s : Int) < S 0 0) (h2 : (t : Int) < S 0 0) (Q : PQ), X L 85 0 [some (xR 36), some (xI (s : Int)), some (xI (t : Int)), some (xI 0)] [] ρ Q = Q (some (xI (dd S 0 s t))) ρ := mi
      have b1 := dd_b hS 0 (fhm S a) x
      have b2 := dd_b hS 0 x y
      have b3 := dd_b hS 0 y (fhm S a)
      have b4 := dd_b hS 0 (fhm S b) y
      have o1 : ∀ Q : PQ, X L 17 0 [some (xR 36), some (xI (fhm S a : Int)), some (xI (x : Int)), some (xI (y : Int))] [] ρ Q = Q (some (xI (dd S 0 (fhm S a) x + dd S 0 x y + dd S 0 y (fhm S a)))) ρ := by
        intro Q
        rw [e_17_0]
        simp only [brI, not_true_eq_false, true_implies, false_implies, implies_true, and_true, cTag, cTgt, cLen, true_and, Int.toNat_natCast, retI_I, retR_R, retV_N, retL_L, ne_eq, Int.reduceEq, not_false_eq_true, mi _ _ ga2 hx, mi _ _ hx hy, mi _ _ hy ga2]
        rw [w32_id (x := dd S 0 (fhm S a) x + dd S 0 x y) (by omega) (by omega), w32_id (by omega) (by omega)]
      have o2 : ∀ Q : PQ, X L 18 0 [some (xR 36), some (xI (fhm S a : Int)), some (xI (x : Int)), some (xI (fhm S b : Int)), some (xI (y : Int))] [] ρ Q = Q (some (xI (2 * dd S 0 (fhm S a) x + 2 * dd S 0 (fhm S b) y))) ρ := by
        intro Q
        rw [e_18_0]
        simp only [brI, not_true_eq_false, true_implies, false_implies, implies_true, and_true, cTag, cTgt, cLen, true_and, Int.toNat_natCast, retI_I, retR_R, retV_N, retL_L, ne_eq, Int.reduceEq, not_false_eq_true, mi _ _ ga2 hx, mi _ _ gb2 hy]
        rw [w32_id (x := 2 * dd S 0 (fhm S a) x) (by omega) (by omega), w32_id (x := 2 * dd S 0 (fhm S b) y) (by omega) (by omega), w32_id (by omega) (by omega)]
      obtain ⟨ρ1, e1, hF1, hH1⟩ := x_fof (L := L) (a : Int) (b : Int) (ff S x y a b) hH
      rw [← u] at hH1
      refine ⟨(ρ1, some (xI (fhm S a : Int)), some (xI (fhm S b : Int)), some (xI (ff S x y a b))), fun Q => ?_, hF.tr hF1, hH1⟩
      show X L 16 30 [some (xR 42), some (xR 1), some (xR 36), some (xI (m : Int)), some (xI (x : Int)), some (xI (y : Int)), some (xI (a : Int)), some (xI (b : Int)), d8, d9, d10] [] ρ Q = X L 16 30 [some (xR 42), some (xR 1), some (xR 36), some (xI (m : Int)), some (xI (x : Int)), some (xI (y : Int)), some (xI (a : Int)), some (xI ((b + 1 : Nat) : Int)), some (xI (fhm S a : Int)), some (xI (fhm S b : Int)), some (xI (ff S x y a b))] [] ρ1 Q
      have e108 : X L 16 108 [some (xR 42), some (xR 1), some (xR 36), some (xI (m : Int)), some (xI (x : Int)), some (xI (y : Int)), some (xI (a : Int)), some (xI (b : Int)), some (xI (fhm S a : Int)), some (xI (fhm S b : Int)), d10] [xI (ff S x y a b)] ρ Q = X L 16 30 [some (xR 42), some (xR 1), some (xR 36), some (xI (m : Int)), some (xI (x : Int)), some (xI (y : Int)), some (xI (a : Int)), some (xI ((b + 1 : Nat) : Int)), some (xI (fhm S a : Int)), some (xI (fhm S b : Int)), some (xI (ff S x y a b))] [] ρ1 Q := by
        rw [e_16_108]
        simp only [brI, not_true_eq_false, true_implies, false_implies, implies_true, and_true, cTag, cTgt, cLen, true_and, Int.toNat_natCast, retI_I, retR_R, retV_N, retL_L, ne_eq, Int.reduceEq, not_false_eq_true, e1, nx]
      rw [e_16_30]
      simp only [brI, not_true_eq_false, true_implies, false_implies, implies_true, and_true, cTag, cTgt, cLen, true_and, Int.toNat_natCast, retI_I, retR_R, retV_N, retL_L, ne_eq, Int.reduceEq, not_false_eq_true, x_isIn, bI_0, x_personAt iV1 ha, x_personAt iV1 hb, gt_p iV1 ha, gt_p iV1 hb, hRr.p ha (f := 1) (by omega), hRr.p hb (f := 1) (by omega), ga, gb, o1, e_16_96, o2]
      rw [if_neg (by omega), if_neg (fun q => q (hba.mpr cs.1)), if_neg (fun q => q (hbb.mpr cs.2))]
      by_cases c : a = b
      · have : ff S x y a b = dd S 0 (fhm S a) x + dd S 0 x y + dd S 0 y (fhm S a) := if_pos c
        rw [this] at e108 ⊢
        rw [if_neg (fun q => q (by omega))]
        exact e108
      · have : ff S x y a b = 2 * dd S 0 (fhm S a) x + 2 * dd S 0 (fhm S b) y := if_neg c
        rw [this] at e108 ⊢
        rw [if_pos (by omega)]
        exact e108
    · have u : inn S m x y a e (b + 1) = inn S m x y a e b := if_neg cs
      rw [← u] at hH
      refine ⟨(ρ, d8, d9, d10), fun Q => ?_, hF, hH⟩
      show X L 16 30 [some (xR 42), some (xR 1), some (xR 36), some (xI (m : Int)), some (xI (x : Int)), some (xI (y : Int)), some (xI (a : Int)), some (xI (b : Int)), d8, d9, d10] [] ρ Q = X L 16 30 [some (xR 42), some (xR 1), some (xR 36), some (xI (m : Int)), some (xI (x : Int)), some (xI (y : Int)), some (xI (a : Int)), some (xI ((b + 1 : Nat) : Int)), d8, d9, d10] [] ρ Q
      rw [e_16_30]
      simp only [brI, not_true_eq_false, true_implies, false_implies, implies_true, and_true, cTag, cTgt, cLen, true_and, Int.toNat_natCast, retI_I, retR_R, retV_N, retL_L, ne_eq, Int.reduceEq, not_false_eq_true, x_isIn, bI_0, nx]
      rw [if_neg (by omega)]
      by_cases c1 : bit (m : Int) (a : Int)
      · rw [if_neg (fun q => q c1), if_pos (fun q => cs ⟨hba.mp c1, hbb.mp q⟩)]
      · rw [if_pos c1]) (a := (σ, d8, d9, d10)) ⟨fun _ _ => rfl, he⟩
  refine ⟨τ, c8, c9, c10, fun Q => ?_, hF, hH⟩
  refine Eq.trans (e1 Q) ?_
  show X L 16 30 [some (xR 42), some (xR 1), some (xR 36), some (xI (m : Int)), some (xI (x : Int)), some (xI (y : Int)), some (xI (a : Int)), some (xI 4), c8, c9, c10] [] τ Q = _
  rw [e_16_30]
  simp only [brI, not_true_eq_false, true_implies, false_implies, implies_true, and_true, cTag, cTgt, cLen, true_and, Int.toNat_natCast, retI_I, retR_R, retV_N, retL_L, ne_eq, Int.reduceEq, not_false_eq_true, Int.le_refl, if_true]
theorem x_fetch (hR : RC 1 S σ) (hS : VS B S) (hL : LdC S σ) {m x y : Nat} (hm : m < 16) (hx : (x : Int) < S 0 0) (hy : (y : Int) < S 0 0) : ∃ τ, (∀ Q : PQ, X L 16 0 [some (xR 42), some (xR 1), some (xR 36), some (xI (m : Int)), some (xI (x : Int)), some (xI (y : Int)), none, none, none, none, none] [] σ Q = Q none τ) ∧ Fr3 σ τ ∧ H3 τ (fou S m x y 4) := by
  obtain ⟨σ0, hσ0⟩ : ∃ σ0, up (up (up σ 42 0 (-6)) 42 1 (-6)) 42 2 (-6) = σ0 := ⟨_, rfl⟩
  have F0 : Fr3 σ σ0 := by
    intro o ho
    funext j; rw [← hσ0]; simp only [up_rd]; rw [if_neg (by omega), if_neg (by omega), if_neg (by omega)]
  have H0 : H3 σ0 (fun _ => -6) := by
    intro j hj; rw [← hσ0]
    rcases (show j = 0 ∨ j = 1 ∨ j = 2 by omega) with rfl | rfl | rfl <;> simp [up_rd]
  obtain ⟨⟨τ, c7, c8, c9, c10⟩, e1, hF, hH⟩ := lpE (n := 4) (fun a (z : Mem × Option PV × Option PV × Option PV × Option PV) Q => X L 16 21 [some (xR 42), some (xR 1), some (xR 36), some (xI (m : Int)), some (xI (x : Int)), some (xI (y : Int)), some (xI (a : Int)), z.2.1, z.2.2.1, z.2.2.2.1, z.2.2.2.2] [] z.1 Q) (fun a z => Fr3 σ z.1 ∧ H3 z.1 (fou S m x y a)) (by
    intro a ⟨ρ, d7, d8, d9, d10⟩ ha ⟨hF, hH⟩
    have hF : Fr3 σ ρ := hF
    have hH : H3 ρ (fou S m x y a) := hH
    obtain ⟨ρ1, c8, c9, c10, e1, hF1, hH1⟩ := x_inn (L := L) (RC_3 hR hF) hS (LdC_3 hL hF) hm hx hy ha d8 d9 d10 hH
    refine ⟨(ρ1, some (xI 4), c8, c9, c10), fun Q => ?_, hF.tr hF1, hH1⟩
    show X L 16 21 [some (xR 42), some (xR 1), some (xR 36), some (xI (m : Int)), some (xI (x : Int)), some (xI (y : Int)), some (xI (a : Int)), d7, d8, d9, d10] [] ρ Q = X L 16 21 [some (xR 42), some (xR 1), some (xR 36), some (xI (m : Int)), some (xI (x : Int)), some (xI (y : Int)), some (xI ((a + 1 : Nat) : Int)), some (xI 4), c8, c9, c10] [] ρ1 Q
    rw [e_16_21]
    simp only [brI]
    rw [if_neg (by omega), e1, e_16_126, w32_id (by omega) (by omega)]
    rfl) (a := (σ0, none, none, none, none)) ⟨F0, H0⟩
  refine ⟨τ, fun Q => ?_, hF, hH⟩
  rw [e_16_0]
  simp only [brI, not_true_eq_false, true_implies, false_implies, implies_true, and_true, cTag, cTgt, cLen, true_and, Int.toNat_natCast, retI_I, retR_R, retV_N, retL_L, ne_eq, Int.reduceEq, not_false_eq_true, hσ0]
  refine Eq.trans (e1 Q) ?_
  show X L 16 21 [some (xR 42), some (xR 1), some (xR 36), some (xI (m : Int)), some (xI (x : Int)), some (xI (y : Int)), some (xI 4), c7, c8, c9, c10] [] τ Q = _
  rw [e_16_21]
  simp only [brI, not_true_eq_false, true_implies, false_implies, implies_true, and_true, cTag, cTgt, cLen, true_and, Int.toNat_natCast, retI_I, retR_R, retV_N, retL_L, ne_eq, Int.reduceEq, not_false_eq_true, Int.le_refl, if_true]
  rw [e_16_132]
theorem c_tog (hI : IC T σ) (hV : IV B T) {m x y w : Int} (hm : -2147483648 ≤ m ∧ m < 2147483648) : CO σ (X L 108 0 [some (xR 0), some (xI m), some (xI x), some (xI y), some (xI w)] [] σ) (a_tog T m x y w) T := by
  have e00 := hI.1.1 0 (by omega)
  have hn := hV.1.1
  have pb := fun Q => x_peopleBits (L := L) iV1 hI.1 hV.1 none none Q
  unfold a_tog
  by_cases c : isT T x ∧ isT T y
  · obtain ⟨c1, c2⟩ := id c
    rw [if_pos c]
    by_cases c3 : (0 ≤ w ∧ w ≤ 2) ∧ ¬ m = 0 ∧ and32 m (xor32 (thb (T 0)) (-1)) = 0
    · rw [if_pos c3]
      obtain ⟨cw, cm, ca⟩ := c3
      obtain ⟨k, hk, hk16, -⟩ := thb_n hV.1
      obtain ⟨m, rfl, hm16, -⟩ := sub_sm hm hk16 (by rw [← hk]; exact ca)
      obtain ⟨x, rfl⟩ : ∃ a : Nat, x = (a : Int) := ⟨x.toNat, by omega⟩
      obtain ⟨y, rfl⟩ : ∃ a : Nat, y = (a : Int) := ⟨y.toNat, by omega⟩
      obtain ⟨w, rfl⟩ : ∃ a : Nat, w = (a : Int) := ⟨w.toNat, by omega⟩
      simp only [Int.toNat_natCast]
      obtain ⟨τ, e, hF, hQ, hI1, hL⟩ := c_surv (L := L) hI hV
      obtain ⟨ρ, e1, hE, hH⟩ := x_fetch (L := L) hI1.1 hV.1 hL hm16 (show (x : Int) < T 0 0 0 by omega) (show (y : Int) < T 0 0 0 by omega)
      have h31 : ρ 31 0 = 0 := by rw [hE 31 (by omega)]; exact hQ.2
      refine CO_q hI ⟨ρ, fun Q => ?_, hQ.tr ⟨fun o ho => hE o (by omega), h31⟩⟩
      simp only [e_108_0, e_108_24, e_108_55, brI, not_true_eq_false, true_implies, false_implies, implies_true, and_true, cTag, cTgt, cLen, true_and, Int.toNat_natCast, retI_I, retR_R, retV_N, retL_L, ne_eq, Int.reduceEq, not_false_eq_true, x_isTown iV1, x_isWithin, bI_0, e00, c1, c2, cw, cm, pb, ca, e, e1, if_true, if_false, and_self, e_108_97, e_108_113, e_108_120, hH 0 (by omega), hH 1 (by omega), hH 2 (by omega)]
      rcases (show w = 0 ∨ w = 1 ∨ w = 2 by omega) with rfl | rfl | rfl <;> simp
    · rw [if_neg c3]
      refine CO_n hI (fun Q => ?_)
      simp only [e_108_0, e_108_24, brI, not_true_eq_false, true_implies, false_implies, implies_true, and_true, cTag, cTgt, cLen, true_and, Int.toNat_natCast, retI_I, retR_R, retV_N, retL_L, ne_eq, Int.reduceEq, not_false_eq_true, x_isTown iV1, x_isWithin, bI_0, e00, c1, c2, pb, if_true, if_false, and_self, e_108_52]
      by_cases cw : 0 ≤ w ∧ w ≤ 2
      · by_cases cm : m = 0
        · simp only [cw, cm, brI, not_true_eq_false, true_implies, false_implies, implies_true, and_true, cTag, cTgt, cLen, true_and, Int.toNat_natCast, retI_I, retR_R, retV_N, retL_L, ne_eq, Int.reduceEq, not_false_eq_true, if_true, if_false, and_self]
        · have ca : ¬ and32 m (xor32 (thb (T 0)) (-1)) = 0 := fun q => c3 ⟨cw, cm, q⟩
          simp only [cw, cm, ca, brI, not_true_eq_false, true_implies, false_implies, implies_true, and_true, cTag, cTgt, cLen, true_and, Int.toNat_natCast, retI_I, retR_R, retV_N, retL_L, ne_eq, Int.reduceEq, not_false_eq_true, if_true, if_false, and_self]
      · simp only [cw, brI, not_true_eq_false, true_implies, false_implies, implies_true, and_true, cTag, cTgt, cLen, true_and, Int.toNat_natCast, retI_I, retR_R, retV_N, retL_L, ne_eq, Int.reduceEq, not_false_eq_true, if_true, if_false]
  · rw [if_neg c]
    refine CO_n hI (fun Q => ?_)
    simp only [e_108_0, e_108_22, brI, not_true_eq_false, true_implies, false_implies, implies_true, and_true, cTag, cTgt, cLen, true_and, Int.toNat_natCast, retI_I, retR_R, retV_N, retL_L, ne_eq, Int.reduceEq, not_false_eq_true, x_isTown iV1, bI_0, e00]
    by_cases c1 : isT T x
    · have c2 : ¬ isT T y := fun q => c ⟨c1, q⟩
      simp only [c1, c2, brI, not_true_eq_false, true_implies, false_implies, implies_true, and_true, cTag, cTgt, cLen, true_and, Int.toNat_natCast, retI_I, retR_R, retV_N, retL_L, ne_eq, Int.reduceEq, not_false_eq_true, if_true, if_false, and_self]
    · simp only [c1, brI, not_true_eq_false, true_implies, false_implies, implies_true, and_true, cTag, cTgt, cLen, true_and, Int.toNat_natCast, retI_I, retR_R, retV_N, retL_L, ne_eq, Int.reduceEq, not_false_eq_true, if_true, if_false]
end CFetch
