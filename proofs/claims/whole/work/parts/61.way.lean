/-! FAR, WAY -/
section Way
variable {B : Int} {S σ τ : Mem} {L v : Nat} {T : Ful}
theorem tn (hV : IV B T) : ∃ n : Nat, (n : Int) = T 0 0 0 ∧ 2 ≤ n ∧ n ≤ 6 := ⟨(T 0 0 0).toNat, by have := hV.1.1; omega, by have := hV.1.1; omega, by have := hV.1.1; omega⟩
theorem c_surv (hI : IC T σ) (hV : IV B T) : ∃ τ, (∀ Q : PQ, X L 79 0 [some (xR 36), some (xR 1)] [] σ Q = Q none τ) ∧ (∀ o, o ≠ 37 → τ o = σ o) ∧ FrQ σ τ ∧ IC T τ ∧ LdC (T 0) τ := by
  obtain ⟨n, hn, -⟩ := tn hV
  obtain ⟨τ, e, hF, hA⟩ := x_survey (L := L) hI.1 hV.1 hn
  have hQ : FrQ σ τ := ⟨fun o ho => hF o (by omega), by rw [hF 31 (by omega)]; exact hI.2.1⟩
  exact ⟨τ, e, hF, hQ, IC_Q hI hQ, fun l a b hl ha hb => hA l a b hl (by omega) (by omega)⟩
theorem m_lay (hI : IM T σ) (hV : IV B T) : ∃ τ, (∀ Q : PQ, X L 176 0 [some (xR 75), none, none, none, none, none] [] σ Q = Q none τ) ∧ (∀ o, o ≠ 98 → τ o = σ o) ∧ FrM σ τ ∧ IM T τ ∧ LdF (T 0) τ := by
  obtain ⟨τ, e, hF, hA⟩ := x_layFar (L := L) hI.1.mi hI.1.ru hV.1
  have hQ : FrM σ τ := ⟨fun o ho => hF o (by omega), fun j _ => by rw [hF 75 (by omega)]⟩
  exact ⟨τ, e, hF, hQ, IM_Q hI hQ, hA⟩
def a_far (T : Ful) (t u l : Int) : Int := if isT T t ∧ isT T u then (if 0 ≤ l ∧ l ≤ 1 then (if dd (T 0) l t.toNat u.toNat < 1000000 then dd (T 0) l t.toNat u.toNat else -6) else -2) else -1
theorem c_far (hI : IC T σ) (hV : IV B T) (t u l : Int) : CO σ (X L 104 0 [some (xR 0), some (xI t), some (xI u), some (xI l), none] [] σ) (a_far T t u l) T := by
  have e00 := hI.1.1 0 (by omega)
  have hn := hV.1.1
  unfold a_far
  by_cases c : isT T t ∧ isT T u
  · obtain ⟨c1, c2⟩ := id c
    rw [if_pos c]
    by_cases c3 : 0 ≤ l ∧ l ≤ 1
    · rw [if_pos c3]
      obtain ⟨a, rfl⟩ : ∃ a : Nat, t = (a : Int) := ⟨t.toNat, by omega⟩
      obtain ⟨b, rfl⟩ : ∃ b : Nat, u = (b : Int) := ⟨u.toNat, by omega⟩
      obtain ⟨l, rfl⟩ : ∃ q : Nat, l = (q : Int) := ⟨l.toNat, by omega⟩
      simp only [Int.toNat_natCast]
      obtain ⟨τ, e, -, hQ, hI1, hL⟩ := c_surv (L := L) hI hV
      refine CO_q hI ⟨τ, fun Q => ?_, hQ⟩
      have hmb := fun Q => x_milesBt (L := L) hV.1 hL (l := l) (a := a) (b := b) (by omega) (by omega) (by omega) Q
      have go : ∀ z : Int, z = (l : Int) → X L 104 63 [some (xR 0), some (xI (a : Int)), some (xI (b : Int)), some (xI (l : Int)), none] [xI z, xI (b : Int), xI (a : Int), xR 36] τ Q = Q (some (xI (if dd (T 0) l a b < 1000000 then dd (T 0) l a b else -6))) τ := by
        intro z hz
        rw [hz, e_104_63]
        simp only [brI, not_true_eq_false, true_implies, false_implies, implies_true, and_true, cTag, cTgt, cLen, true_and, Int.toNat_natCast, retI_I, retR_R, retV_N, retL_L, ne_eq, Int.reduceEq, not_false_eq_true, hmb, e_104_80, e_104_82]
        by_cases c4 : dd (T 0) l a b < 1000000
        · rw [if_pos c4, if_pos c4]
        · rw [if_neg c4, if_neg c4]
      simp only [e_104_0, e_104_24, e_104_36, brI, not_true_eq_false, true_implies, false_implies, implies_true, and_true, cTag, cTgt, cLen, true_and, Int.toNat_natCast, retI_I, retR_R, retV_N, retL_L, ne_eq, Int.reduceEq, not_false_eq_true, x_isTown iV1, x_isWithin, bI_0, e00, c1, c2, c3, e, e_104_62, if_true, if_false, and_self]
      by_cases l1 : (l : Int) = 1
      · rw [if_neg (fun q => q l1)]; exact go 1 l1.symm
      · rw [if_pos l1]; exact go 0 (by omega)
    · rw [if_neg c3]
      refine CO_n hI (fun Q => ?_)
      simp only [e_104_0, e_104_24, brI, not_true_eq_false, true_implies, false_implies, implies_true, and_true, cTag, cTgt, cLen, true_and, Int.toNat_natCast, retI_I, retR_R, retV_N, retL_L, ne_eq, Int.reduceEq, not_false_eq_true, x_isTown iV1, x_isWithin, bI_0, e00, c1, c2, c3, if_true, if_false, and_self]
  · rw [if_neg c]
    refine CO_n hI (fun Q => ?_)
    simp only [e_104_0, e_104_22, brI, not_true_eq_false, true_implies, false_implies, implies_true, and_true, cTag, cTgt, cLen, true_and, Int.toNat_natCast, retI_I, retR_R, retV_N, retL_L, ne_eq, Int.reduceEq, not_false_eq_true, x_isTown iV1, bI_0, e00]
    by_cases c1 : isT T t
    · have c2 : ¬ isT T u := fun q => c ⟨c1, q⟩
      simp only [c1, c2, brI, not_true_eq_false, true_implies, false_implies, implies_true, and_true, cTag, cTgt, cLen, true_and, Int.toNat_natCast, retI_I, retR_R, retV_N, retL_L, ne_eq, Int.reduceEq, not_false_eq_true, if_true, if_false, and_self]
    · simp only [c1, brI, not_true_eq_false, true_implies, false_implies, implies_true, and_true, cTag, cTgt, cLen, true_and, Int.toNat_natCast, retI_I, retR_R, retV_N, retL_L, ne_eq, Int.reduceEq, not_false_eq_true, if_true, if_false]
theorem m_far (hI : IM T σ) (hV : IV B T) (t u l : Int) : MO σ (X L 178 0 [some (xR 75), some (xI t), some (xI u), some (xI l), none] [] σ) (a_far T t u l) T := by
  have hn := hV.1.1
  have hw6 : 2 ≤ σ 75 0 ∧ σ 75 0 ≤ 6 := by rw [hI.tw]; exact hn
  unfold a_far
  by_cases c : isT T t ∧ isT T u
  · obtain ⟨c1, c2⟩ := id c
    rw [if_pos c]
    by_cases c3 : 0 ≤ l ∧ l ≤ 1
    · rw [if_pos c3]
      obtain ⟨a, rfl⟩ : ∃ a : Nat, t = (a : Int) := ⟨t.toNat, by omega⟩
      obtain ⟨b, rfl⟩ : ∃ b : Nat, u = (b : Int) := ⟨u.toNat, by omega⟩
      obtain ⟨l, rfl⟩ : ∃ q : Nat, l = (q : Int) := ⟨l.toNat, by omega⟩
      simp only [Int.toNat_natCast]
      obtain ⟨τ, e, -, hQ, hI1, hL⟩ := m_lay (L := L) hI hV
      refine MO_q hI ⟨τ, fun Q => ?_, hQ⟩
      have hmb := fun Q => x_farOf (L := L) hV.1 hL (l := l) (a := a) (b := b) (by omega) (by omega) (by omega) Q
      have go : ∀ z : Int, z = (l : Int) → X L 178 47 [some (xR 75), some (xI (a : Int)), some (xI (b : Int)), some (xI (l : Int)), none] [xI z, xI (b : Int), xI (a : Int), xR 75] τ Q = Q (some (xI (if dd (T 0) l a b < 1000000 then dd (T 0) l a b else -6))) τ := by
        intro z hz
        rw [hz, e_178_47]
        simp only [brI, not_true_eq_false, true_implies, false_implies, implies_true, and_true, cTag, cTgt, cLen, true_and, Int.toNat_natCast, retI_I, retR_R, retV_N, retL_L, ne_eq, Int.reduceEq, not_false_eq_true, hmb, e_178_64, e_178_66]
        by_cases c4 : dd (T 0) l a b < 1000000
        · rw [if_neg (by omega), if_pos c4]
        · rw [if_pos (by omega), if_neg c4]
      simp only [e_178_0, e_178_18, e_178_30, brI, not_true_eq_false, true_implies, false_implies, implies_true, and_true, cTag, cTgt, cLen, true_and, Int.toNat_natCast, retI_I, retR_R, retV_N, retL_L, ne_eq, Int.reduceEq, not_false_eq_true, x_isTownM L _ _ _ hw6, x_in, bI_0, hI.tw, c1, c2, c3, e, e_178_46, if_true, if_false, and_self]
      by_cases l1 : (l : Int) = 1
      · rw [if_neg (fun q => q l1)]; exact go 1 l1.symm
      · rw [if_pos l1]; exact go 0 (by omega)
    · rw [if_neg c3]
      refine MO_n hI (fun Q => ?_)
      simp only [e_178_0, e_178_18, brI, not_true_eq_false, true_implies, false_implies, implies_true, and_true, cTag, cTgt, cLen, true_and, Int.toNat_natCast, retI_I, retR_R, retV_N, retL_L, ne_eq, Int.reduceEq, not_false_eq_true, x_isTownM L _ _ _ hw6, x_in, bI_0, hI.tw, c1, c2, c3, if_true, if_false, and_self]
  · rw [if_neg c]
    refine MO_n hI (fun Q => ?_)
    simp only [e_178_0, e_178_16, brI, not_true_eq_false, true_implies, false_implies, implies_true, and_true, cTag, cTgt, cLen, true_and, Int.toNat_natCast, retI_I, retR_R, retV_N, retL_L, ne_eq, Int.reduceEq, not_false_eq_true, x_isTownM L _ _ _ hw6, bI_0, hI.tw]
    by_cases c1 : isT T t
    · have c2 : ¬ isT T u := fun q => c ⟨c1, q⟩
      simp only [c1, c2, brI, not_true_eq_false, true_implies, false_implies, implies_true, and_true, cTag, cTgt, cLen, true_and, Int.toNat_natCast, retI_I, retR_R, retV_N, retL_L, ne_eq, Int.reduceEq, not_false_eq_true, if_true, if_false, and_self]
    · simp only [c1, brI, not_true_eq_false, true_implies, false_implies, implies_true, and_true, cTag, cTgt, cLen, true_and, Int.toNat_natCast, retI_I, retR_R, retV_N, retL_L, ne_eq, Int.reduceEq, not_false_eq_true, if_true, if_false]
/-! the WAY: towns one after another -/
abbrev nxC (S : Mem) (l : Int) (t k a v : Nat) : Prop := opn S l a v ∧ lf S l t (k - 1) v < 1000000 ∧ lf S l t (k - 1) v + mil S a v = lf S l t k a
def fnd (P : Nat → Prop) [DecidablePred P] : Nat → Nat → Nat
  | 0, v => v
  | m + 1, v => if P v then v else fnd P m (v + 1)
theorem fnd_sp (P : Nat → Prop) [DecidablePred P] : ∀ (m v w : Nat), v ≤ w → w < v + m → P w → P (fnd P m v) ∧ fnd P m v ≤ w ∧ (∀ x, v ≤ x → x < fnd P m v → ¬ P x) ∧ v ≤ fnd P m v := by
  intro m
  induction m with
  | zero => intro v w h1 h2; omega
  | succ m ih =>
    intro v w h1 h2 hw
    simp only [fnd]
    by_cases c : P v
    · rw [if_pos c]; exact ⟨c, h1, fun x a b => by omega, Nat.le_refl _⟩
    · rw [if_neg c]
      by_cases e : v = w
      · subst e; exact absurd hw c
      · obtain ⟨a1, a2, a3, a4⟩ := ih (v + 1) w (by omega) (by omega) hw
        refine ⟨a1, a2, fun x hx1 hx2 => ?_, by omega⟩
        by_cases e2 : x = v
        · rw [e2]; exact c
        · exact a3 x (by omega) hx2
def nxt (S : Mem) (l : Int) (t k a : Nat) : Nat := fnd (nxC S l t k a) 6 0
/-- the i-th town of the way of k roads from a -/
def pth (S : Mem) (l : Int) (t k a : Nat) : Nat → Nat
  | 0 => a
  | j + 1 => nxt S l t (k - j) (pth S l t k a j)
theorem nxt_sp (S : Mem) (l : Int) {t k a : Nat} (hk : 0 < k) (h : lf S l t k a < 1000000) : nxC S l t k a (nxt S l t k a) ∧ (∀ x, x < nxt S l t k a → ¬ nxC S l t k a x) ∧ nxt S l t k a < 6 := by
  obtain ⟨j, rfl⟩ : ∃ j, k = j + 1 := ⟨k - 1, by omega⟩
  obtain ⟨v, ho, hv, e⟩ := lf_ex h
  have hv6 := (opn_lt ho).2
  obtain ⟨a1, a2, a3, -⟩ := fnd_sp (nxC S l t (j + 1) a) 6 0 v (by omega) (by omega) ⟨ho, hv, e.symm⟩
  exact ⟨a1, fun x hx => a3 x (by omega) hx, by unfold nxt; omega⟩
/-- a town from which the way has just k roads -/
def onW (S : Mem) (l : Int) (t k a : Nat) : Prop := k ≤ 5 ∧ lf S l t k a < 1000000 ∧ dw S l a t = 8 * lf S l t k a + k
theorem nx_iff (hS : VS B S) {l : Int} {t k a v : Nat} (hk : 0 < k) (hw : onW S l t k a) : nxC S l t k a v ↔ (¬ v = a ∧ wr S l a v + dw S l v t = dw S l a t) := by
  obtain ⟨w1', w2', w3'⟩ := hw
  have b1 := (lf_b hS l t k a).2 w2'
  have pot := dw_pot hS l t a v
  have hm := mil_b hS a v
  constructor
  · intro ⟨ho, h1, h2⟩
    have hne := opn_ne hS ho
    have hd := dw_le (S := S) (l := l) (a := v) (t := t) (k := k - 1) (by omega) h1
    have e1 : wr S l a v = 8 * mil S a v + 1 := if_pos ho
    have e2 : w1 S l a v = 8 * mil S a v + 1 := by unfold w1; rw [if_neg hne, if_pos ho]
    refine ⟨fun e => hne e.symm, ?_⟩
    clear ho
    omega
  · intro ⟨hne, h⟩
    have dvb := dw_b hS l v t
    by_cases ho : opn S l a v
    · have e1 : wr S l a v = 8 * mil S a v + 1 := if_pos ho
      rcases dw_at S l v t with g | ⟨j, hj, g1, g2⟩
      · exfalso; clear ho; omega
      · have hjk : j = k - 1 := by clear ho; omega
        subst hjk
        exact ⟨ho, g1, by clear ho; omega⟩
    · have e1 : wr S l a v = 8000000 := if_neg ho
      exfalso; clear ho; omega
theorem onW_nx (hS : VS B S) {l : Int} {t k a v : Nat} (hk : 0 < k) (hw : onW S l t k a) (h : nxC S l t k a v) : onW S l t (k - 1) v := by
  have h2 := (nx_iff hS hk hw).mp h
  obtain ⟨ho, h3, h4⟩ := h
  obtain ⟨w1', w2', w3'⟩ := hw
  have e1 : wr S l a v = 8 * mil S a v + 1 := if_pos ho
  have h5 := h2.2
  refine ⟨by omega, h3, ?_⟩
  clear ho
  omega
theorem onW_pth (hS : VS B S) {l : Int} {t k a : Nat} (hw : onW S l t k a) : ∀ j, j ≤ k → onW S l t (k - j) (pth S l t k a j) := by
  intro j
  induction j with
  | zero => intro _; exact hw
  | succ j ih =>
    intro hj
    have h := ih (by omega)
    have s := (nxt_sp S l (t := t) (k := k - j) (a := pth S l t k a j) (by omega) h.2.1).1
    have := onW_nx hS (by omega) h s
    rw [show k - j - 1 = k - (j + 1) by omega] at this
    exact this
theorem onW_t (hS : VS B S) {l : Int} {t k a : Nat} (hw : onW S l t k a) : a = t ↔ k = 0 := by
  obtain ⟨w1', w2', w3'⟩ := hw
  constructor
  · intro e
    subst e
    have := dw_0 S l a hS
    have := (lf_b hS l a k a).1
    omega
  · intro e
    subst e
    simp only [lf] at w2'
    split at w2'
    · assumption
    · omega
theorem onW_ex (hS : VS B S) {l : Int} {t a : Nat} (h : dd S l a t < 1000000) : onW S l t (dw S l a t % 8).toNat a := by
  have hd := dw_dd hS l a t
  rcases dw_at S l a t with g | ⟨j, hj, g1, g2⟩
  · omega
  · have : (dw S l a t % 8).toNat = j := by omega
    rw [this]
    exact ⟨hj, g1, g2⟩
theorem pth_tn (hS : VS B S) {l : Int} {t k a : Nat} (hw : onW S l t k a) (ha : (a : Int) < S 0 0) : ∀ j, j ≤ k → (pth S l t k a j : Int) < S 0 0 := by
  intro j
  cases j with
  | zero => intro _; exact ha
  | succ j =>
    intro hj
    have h := onW_pth hS hw j (by omega)
    have s := (nxt_sp S l (t := t) (k := k - j) (a := pth S l t k a j) (by omega) h.2.1).1
    exact (opn_tn hS s.1).2
theorem x_nextTown (hR : RC 1 S σ) (hS : VS B S) (hL : LdC S σ) {l t k a : Nat} (hl : l < 2) (hk : 0 < k) (hw : onW S l t k a) (ha : (a : Int) < S 0 0) (ht : (t : Int) < S 0 0) (Q : PQ) : X L 87 0 [some (xR 36), some (xR 1), some (xI (a : Int)), some (xI (t : Int)), some (xI (l : Int)), none, none, none] [] σ Q = Q (some (xI (nxt S l t k a : Int))) σ := by
  have hn := hS.1
  obtain ⟨s1, s2, s3⟩ := nxt_sp S l (t := t) (k := k) (a := a) hk hw.2.1
  have hv := (opn_tn hS s1.1).2
  have e0 := hR.1 0 (by omega)
  have lp : ∀ (m v : Nat) (d7 : Option PV), v + m = nxt S l t k a → X L 87 13 [some (xR 36), some (xR 1), some (xI (a : Int)), some (xI (t : Int)), some (xI (l : Int)), some (xI (dw S l a t)), some (xI (v : Int)), d7] [] σ Q = Q (some (xI (nxt S l t k a : Int))) σ := by
    intro m
    induction m with
    | zero =>
      intro v d7 hvm
      have e : v = nxt S l t k a := by omega
      have c := (nx_iff hS hk hw).mp s1
      rw [← e] at c hv ⊢
      have dvb := dw_b hS l v t
      have wb : 0 ≤ wr S l a v ∧ wr S l a v ≤ 8000000 := by
        have := mil_b hS a v
        unfold wr; split <;> omega
      rw [e_87_13]
      simp only [brI, not_true_eq_false, true_implies, false_implies, implies_true, and_true, cTag, cTgt, cLen, true_and, Int.toNat_natCast, retI_I, retR_R, retV_N, retL_L, ne_eq, Int.reduceEq, not_false_eq_true, e0, x_wOf iV1 hR hS hl, x_wBt hl (show v < 6 by omega) (show t < 6 by omega), hL l v t hl hv ht, w32_id (x := wr S l a v + dw S l v t) (by omega) (by omega)]
      rw [if_neg (by omega), if_neg (by have := c.1; omega), if_neg (fun q => q c.2)]
    | succ m ih =>
      intro v d7 hvm
      have hvn : (v : Int) < S 0 0 := by omega
      have c : ¬ (¬ v = a ∧ wr S l a v + dw S l v t = dw S l a t) := fun q => s2 v (by omega) ((nx_iff hS hk hw).mpr q)
      have dvb := dw_b hS l v t
      have wb : 0 ≤ wr S l a v ∧ wr S l a v ≤ 8000000 := by
        have := mil_b hS a v
        unfold wr; split <;> omega
      have nx : X L 87 59 [some (xR 36), some (xR 1), some (xI (a : Int)), some (xI (t : Int)), some (xI (l : Int)), some (xI (dw S l a t)), some (xI (v : Int)), some (xI (wr S l a v))] [] σ Q = Q (some (xI (nxt S l t k a : Int))) σ := by
        rw [e_87_59, w32_id (by omega) (by omega)]
        exact ih (v + 1) _ (by omega)
      rw [e_87_13]
      simp only [brI, not_true_eq_false, true_implies, false_implies, implies_true, and_true, cTag, cTgt, cLen, true_and, Int.toNat_natCast, retI_I, retR_R, retV_N, retL_L, ne_eq, Int.reduceEq, not_false_eq_true, e0, x_wOf iV1 hR hS hl, x_wBt hl (show v < 6 by omega) (show t < 6 by omega), hL l v t hl hvn ht, w32_id (x := wr S l a v + dw S l v t) (by omega) (by omega)]
      rw [if_neg (by omega)]
      by_cases ca : (v : Int) = (a : Int)
      · rw [if_pos ca]; exact nx
      · rw [if_neg ca, if_pos (fun q => c ⟨by omega, q⟩)]; exact nx
  rw [e_87_0]
  simp only [brI, not_true_eq_false, true_implies, false_implies, implies_true, and_true, cTag, cTgt, cLen, true_and, Int.toNat_natCast, retI_I, retR_R, retV_N, retL_L, ne_eq, Int.reduceEq, not_false_eq_true, x_wBt hl (show a < 6 by omega) (show t < 6 by omega), hL l a t hl ha ht]
  exact lp (nxt S l t k a) 0 none (by omega)
/-- the i-th town of the WAY, or NONE -/
def wyI (S : Mem) (l : Int) (t k a : Nat) (i : Int) : Int := if 0 ≤ i ∧ i ≤ k then (pth S l t k a i.toNat : Int) else -6
theorem x_onWay (hR : RC 1 S σ) (hS : VS B S) (hL : LdC S σ) {l t k a : Nat} (hl : l < 2) (hw : onW S l t k a) (ha : (a : Int) < S 0 0) (ht : (t : Int) < S 0 0) (i : Int) (Q : PQ) : X L 86 0 [some (xR 36), some (xR 1), some (xI (a : Int)), some (xI (t : Int)), some (xI (l : Int)), some (xI i), none, none] [] σ Q = Q (some (xI (wyI S l t k a i))) σ := by
  have hk5 := hw.1
  have lp : ∀ (m j : Nat), j + m = k → (0 ≤ i → (j : Int) ≤ i) → X L 86 6 [some (xR 36), some (xR 1), some (xI (a : Int)), some (xI (t : Int)), some (xI (l : Int)), some (xI i), some (xI (pth S l t k a j : Int)), some (xI (j : Int))] [] σ Q = Q (some (xI (wyI S l t k a i))) σ := by
    intro m
    induction m with
    | zero =>
      intro j hj hi
      have hz := (onW_t hS (onW_pth hS hw j (by omega))).mpr (by omega)
      rw [e_86_6]
      simp only [brI, not_true_eq_false, true_implies, false_implies, implies_true, and_true, cTag, cTgt, cLen, true_and, Int.toNat_natCast, retI_I, retR_R, retV_N, retL_L, ne_eq, Int.reduceEq, not_false_eq_true, e_86_23]
      rw [if_neg (by omega)]
      unfold wyI
      by_cases c : (j : Int) = i
      · rw [if_neg (fun q => q c), if_pos (by omega), show i.toNat = j by omega]
      · rw [if_pos c, if_neg (by simp [hz]), if_neg (by omega)]
    | succ m ih =>
      intro j hj hi
      have ho := onW_pth hS hw j (by omega)
      have hz : ¬ pth S l t k a j = t := fun q => by have := (onW_t hS ho).mp q; omega
      rw [e_86_6]
      simp only [brI, not_true_eq_false, true_implies, false_implies, implies_true, and_true, cTag, cTgt, cLen, true_and, Int.toNat_natCast, retI_I, retR_R, retV_N, retL_L, ne_eq, Int.reduceEq, not_false_eq_true, e_86_23, e_86_32]
      rw [if_neg (by omega)]
      by_cases c : (j : Int) = i
      · unfold wyI
        rw [if_neg (fun q => q c), if_pos (by omega), show i.toNat = j by omega]
      · rw [if_pos c, if_pos (by omega)]
        have hn := fun Q => x_nextTown (L := L) hR hS hL hl (show 0 < k - j by omega) ho (pth_tn hS hw ha j (by omega)) ht Q
        simp only [hn, retI_I]
        rw [w32_id (by omega) (by omega)]
        exact ih (j + 1) (by omega) (by omega)
  rw [e_86_0]
  exact lp k 0 (by omega) (by omega)
abbrev lmI (S : Mem) (p : Nat) : Int := bI (lmp (S (8 + p)) (S 0 2))
def a_way (T : Ful) (p t i : Int) : Int := if ¬ thr (T 0) p = 0 ∧ isT T t then (if dd (T 0) (lmI (T 0) p.toNat) (T 0 (8 + p.toNat) 2).toNat t.toNat < 1000000 then (if i = -1 then dd (T 0) (lmI (T 0) p.toNat) (T 0 (8 + p.toNat) 2).toNat t.toNat else wyI (T 0) (lmI (T 0) p.toNat) t.toNat (dw (T 0) (lmI (T 0) p.toNat) (T 0 (8 + p.toNat) 2).toNat t.toNat % 8).toNat (T 0 (8 + p.toNat) 2).toNat i) else -6) else -1
theorem c_way (hI : IC T σ) (hV : IV B T) (hB : B ≤ 1000000) (p t i : Int) : CO σ (X L 105 0 [some (xR 0), some (xI p), some (xI t), some (xI i), none, none, none] [] σ) (a_way T p t i) T := by
  have e00 := hI.1.1 0 (by omega)
  have hn := hV.1.1
  unfold a_way
  by_cases c : ¬ thr (T 0) p = 0 ∧ isT T t
  · obtain ⟨c1, c2⟩ := id c
    rw [if_pos c]
    obtain ⟨q, hq, rfl, -⟩ := thr_in (B := B) c1
    obtain ⟨t, rfl⟩ : ∃ a : Nat, t = (a : Int) := ⟨t.toNat, by omega⟩
    simp only [Int.toNat_natCast]
    obtain ⟨a1, a2, a3, a4, a5, a6, a7, a8, a9, a10, a11, a12⟩ := hV.1.p hq
    obtain ⟨a, hae⟩ : ∃ a : Nat, T 0 (8 + q) 2 = (a : Int) := ⟨(T 0 (8 + q) 2).toNat, by omega⟩
    obtain ⟨τ, e, hF, hQ, hI1, hL⟩ := c_surv (L := L) hI hV
    have e2 := hI1.1.1 2 (by omega)
    have hl := fun Q => x_limps (L := L) (σ := τ) (gt_p iV1 hq) (T 0 0 2) hV.1.2.2.1.1 (by rw [hI1.1.p hq (by omega)]; omega) (by rw [hI1.1.p hq (by omega)]; omega) Q
    have hlm := bI_c (RC_lmp hI1.1 hq (T 0 0 2))
    have hpl := hI1.1.p hq (f := 2) (by omega)
    obtain ⟨l, hle⟩ : ∃ l : Nat, lmI (T 0) q = (l : Int) := ⟨(lmI (T 0) q).toNat, by show bI _ = _; unfold lmI bI; split <;> rfl⟩
    have hl2 : l < 2 := by
      have : lmI (T 0) q = 0 ∨ lmI (T 0) q = 1 := by unfold lmI bI; split <;> simp
      omega
    have hmb := fun Q => x_milesBt (L := L) hV.1 hL (l := l) (a := a) (b := t) hl2 (by omega) (by omega) Q
    rw [hae, Int.toNat_natCast, hle]
    refine CO_q hI ⟨τ, fun Q => ?_, hQ⟩
    simp only [e_105_0, e_105_24, brI, not_true_eq_false, true_implies, false_implies, implies_true, and_true, cTag, cTgt, cLen, true_and, Int.toNat_natCast, retI_I, retR_R, retV_N, retL_L, ne_eq, Int.reduceEq, not_false_eq_true, x_isThere iV1 hI.1 hV.1, x_isTown iV1, bI_0, e00, c1, c2, e, x_personAt iV1 hq, gt_p iV1 hq, e2, hl, hlm, hpl, hae, hle, hmb, if_true, if_false, and_self]
    by_cases c4 : dd (T 0) l a t < 1000000
    · rw [if_pos c4, if_pos c4]
      have hw := onW_ex hV.1 c4
      simp only [e_105_86, e_105_96, e_105_116, brI, not_true_eq_false, true_implies, false_implies, implies_true, and_true, cTag, cTgt, cLen, true_and, Int.toNat_natCast, retI_I, retR_R, retV_N, retL_L, ne_eq, Int.reduceEq, not_false_eq_true, gt_p iV1 hq, hpl, hae, x_onWay hI1.1 hV.1 hL hl2 hw (show (a : Int) < T 0 0 0 by omega) (show (t : Int) < T 0 0 0 by omega) i]
      by_cases ci : i = -1
      · rw [if_neg (fun q => q ci), if_pos ci]
      · rw [if_pos ci, if_neg ci]
    · rw [if_neg c4, if_neg c4]
  · rw [if_neg c]
    refine CO_n hI (fun Q => ?_)
    simp only [e_105_0, e_105_22, brI, not_true_eq_false, true_implies, false_implies, implies_true, and_true, cTag, cTgt, cLen, true_and, Int.toNat_natCast, retI_I, retR_R, retV_N, retL_L, ne_eq, Int.reduceEq, not_false_eq_true, x_isThere iV1 hI.1 hV.1, x_isTown iV1, bI_0, e00]
    by_cases c1 : thr (T 0) p = 0
    · simp only [c1, brI, not_true_eq_false, true_implies, false_implies, implies_true, and_true, cTag, cTgt, cLen, true_and, Int.toNat_natCast, retI_I, retR_R, retV_N, retL_L, ne_eq, Int.reduceEq, not_false_eq_true, if_true]
    · have c2 : ¬ isT T t := fun q => c ⟨c1, q⟩
      simp only [c1, c2, brI, not_true_eq_false, true_implies, false_implies, implies_true, and_true, cTag, cTgt, cLen, true_and, Int.toNat_natCast, retI_I, retR_R, retV_N, retL_L, ne_eq, Int.reduceEq, not_false_eq_true, if_true, if_false]
end Way
