/-! rows copied, rows cleared; a Valley becomes like another, a Valley begins anew -/
def cpc (σ : Mem) (a b i n : Nat) : Mem := fun o j => if o = b ∧ i ≤ j ∧ j < n then σ a j else σ o j
def clr (σ : Mem) (a i n : Nat) : Mem := fun o j => if o = a ∧ i ≤ j ∧ j < n then 0 else σ o j
theorem x_copyRow2 {L a b n : Nat} (ha : tag a = 0) (hb : tag b = 0) (la : lenL L a = n) (lb : lenL L b = n) (hn : n < 1000) (hab : a ≠ b) (Q : PQ) : ∀ (m i : Nat) (σ : Mem), i + m = n → X L 136 2 [some (xR a), some (xR b), some (xI (i : Int))] [] σ Q = Q none (cpc σ a b i n) := by
  intro m
  induction m with
  | zero =>
    intro i σ h
    rw [e_136_2]
    simp only [e_136_26, brI, ha, true_and, la, lb]
    rw [if_pos (by omega)]
    congr 1
    funext o j
    simp only [cpc]
    rw [if_neg (by omega)]
  | succ m ih =>
    intro i σ h
    have e := ih (i + 1) (up σ b i (σ a i)) (by omega)
    rw [e_136_2]
    simp only [e_136_26, brI, ha, hb, true_and, la, lb, Int.toNat_natCast]
    rw [if_neg (by omega), if_neg (by omega), w32_id (by omega) (by omega)]
    rw [show ((i : Int) + 1) = ((i + 1 : Nat) : Int) by omega, e]
    have c1 : (0 ≤ (i : Int) ∧ (i : Int) < (n : Int)) := by omega
    simp only [c1, true_and, and_self]
    congr 1
    funext o j
    simp only [cpc, up_rd]
    by_cases co : o = b
    · subst co
      by_cases cj : j = i
      · subst cj
        rw [if_neg (by omega), if_pos ⟨rfl, rfl⟩, if_pos (by omega)]
      · by_cases c : i ≤ j ∧ j < n
        · rw [if_pos (by omega), if_neg (by omega), if_pos (by omega)]
        · rw [if_neg (by omega), if_neg (by omega), if_neg (by omega)]
    · rw [if_neg (by simp [co]), if_neg (by simp [co]), if_neg (by simp [co])]
theorem x_copyRow {L a b n : Nat} (ha : tag a = 0) (hb : tag b = 0) (la : lenL L a = n) (lb : lenL L b = n) (hn : n < 1000) (hab : a ≠ b) (σ : Mem) (d : Option PV) (Q : PQ) : X L 136 0 [some (xR a), some (xR b), d] [] σ Q = Q none (cpc σ a b 0 n) := by
  rw [e_136_0]
  exact x_copyRow2 ha hb la lb hn hab Q n 0 σ (by omega)
theorem x_clearRow2 {L a n : Nat} (ha : tag a = 0) (la : lenL L a = n) (hn : n < 1000) (Q : PQ) : ∀ (m i : Nat) (σ : Mem), i + m = n → X L 137 2 [some (xR a), some (xI (i : Int))] [] σ Q = Q none (clr σ a i n) := by
  intro m
  induction m with
  | zero =>
    intro i σ h
    rw [e_137_2]
    simp only [e_137_18, brI, ha, true_and, la]
    rw [if_pos (by omega)]
    congr 1
    funext o j
    simp only [clr]
    rw [if_neg (by omega)]
  | succ m ih =>
    intro i σ h
    have e := ih (i + 1) (up σ a i 0) (by omega)
    rw [e_137_2]
    simp only [e_137_18, brI, ha, true_and, la, Int.toNat_natCast]
    rw [if_neg (by omega), w32_id (by omega) (by omega)]
    rw [show ((i : Int) + 1) = ((i + 1 : Nat) : Int) by omega, e]
    have c1 : (0 ≤ (i : Int) ∧ (i : Int) < (n : Int)) := by omega
    simp only [c1, true_and, and_self]
    congr 1
    funext o j
    simp only [clr, up_rd]
    by_cases co : o = a
    · subst co
      by_cases cj : j = i
      · subst cj
        rw [if_neg (by omega), if_pos ⟨rfl, rfl⟩, if_pos (by omega)]
      · by_cases c : i ≤ j ∧ j < n
        · rw [if_pos (by omega), if_pos (by omega)]
        · rw [if_neg (by omega), if_neg (by omega), if_neg (by omega)]
    · rw [if_neg (by simp [co]), if_neg (by simp [co]), if_neg (by simp [co])]
theorem x_clearRow {L a n : Nat} (ha : tag a = 0) (la : lenL L a = n) (hn : n < 1000) (σ : Mem) (d : Option PV) (Q : PQ) : X L 137 0 [some (xR a), d] [] σ Q = Q none (clr σ a 0 n) := by
  rw [e_137_0]
  exact x_clearRow2 ha la hn Q n 0 σ (by omega)
def lnv (c : Nat) : Nat := [4, 15, 15, 45, 6, 6, 30, 6, 6, 0, 0, 11, 11, 11, 11].getD c 0
section Copies
variable {v w : Nat} {B : Int} {S σ : Mem} {L : Nat}
theorem gl_n {c : Nat} (hv : IsV v) (h1 : 1 ≤ c) (h2 : c ≤ 8) (L : Nat) : lenL L (v + c) = lnv c := by
  rcases (show c = 1 ∨ c = 2 ∨ c = 3 ∨ c = 4 ∨ c = 5 ∨ c = 6 ∨ c = 7 ∨ c = 8 by omega) with rfl | rfl | rfl | rfl | rfl | rfl | rfl | rfl <;> rcases hv with rfl | rfl | rfl | rfl <;> rfl
theorem gt_n {c : Nat} (hv : IsV v) (h1 : 1 ≤ c) (h2 : c ≤ 8) : tag (v + c) = 0 := by
  rcases (show c = 1 ∨ c = 2 ∨ c = 3 ∨ c = 4 ∨ c = 5 ∨ c = 6 ∨ c = 7 ∨ c = 8 by omega) with rfl | rfl | rfl | rfl | rfl | rfl | rfl | rfl <;> rcases hv with rfl | rfl | rfl | rfl <;> rfl
def KC (v w m : Nat) (σ τ : Mem) : Prop := Fr v σ τ ∧ (∀ c, c < m → c ≠ 9 → c ≠ 10 → ∀ j, j < lnv c → τ (v + c) j = σ (w + c) j) ∧ (∀ c, m ≤ c ∨ c = 9 ∨ c = 10 → τ (v + c) = σ (v + c))
theorem V_dis (hv : IsV v) (hw : IsV w) (h : v ≠ w) : v + 15 ≤ w ∨ w + 15 ≤ v := by
  unfold IsV at hv hw; omega
theorem KC_st (hd : v + 15 ≤ w ∨ w + 15 ≤ v) {m n : Nat} {τ τ' : Mem} (h : KC v w m σ τ) (hm : m < 15) (h9 : m ≠ 9) (h10 : m ≠ 10) (hn : n = lnv m) (he : ∀ o j, τ' o j = if o = v + m ∧ j < n then τ (w + m) j else τ o j) : KC v w (m + 1) σ τ' := by
  obtain ⟨a1, a2, a3⟩ := h
  refine ⟨?_, ?_, ?_⟩
  · intro o ho
    funext j
    rw [he, if_neg (by omega), a1 o ho]
  · intro c hc c9 c10 j hj
    rw [he]
    by_cases e : c = m
    · subst e
      rw [if_pos (by omega), a1 (w + c) (by omega)]
    · rw [if_neg (by omega), a2 c (by omega) c9 c10 j hj]
  · intro c hc
    funext j
    rw [he, if_neg (by omega), a3 c (by omega)]
theorem KC_cp (hd : v + 15 ≤ w ∨ w + 15 ≤ v) {m n : Nat} {τ : Mem} (h : KC v w m σ τ) (hm : m < 15) (h9 : m ≠ 9) (h10 : m ≠ 10) (hn : n = lnv m) : KC v w (m + 1) σ (cpc τ (w + m) (v + m) 0 n) := by
  refine KC_st hd h hm h9 h10 hn ?_
  intro o j
  simp only [cpc, Nat.zero_le, true_and]
theorem KC_P (hd : v + 15 ≤ w ∨ w + 15 ≤ v) {p : Nat} {τ : Mem} (h : KC v w (11 + p) σ τ) (hp : p < 4) : KC v w (11 + (p + 1)) σ (cpP τ (v + 11 + p) (w + 11 + p)) := by
  refine KC_st (m := 11 + p) (n := 11) hd h (by omega) (by omega) (by omega) ?_ ?_
  · rcases (show p = 0 ∨ p = 1 ∨ p = 2 ∨ p = 3 by omega) with rfl | rfl | rfl | rfl <;> rfl
  · intro o j
    simp only [cpP, Nat.add_assoc]
theorem KC_0 (hd : v + 15 ≤ w ∨ w + 15 ≤ v) : KC v w 1 σ (up (up (up (up σ v 0 (σ w 0)) v 1 (σ w 1)) v 2 (σ w 2)) v 3 (σ w 3)) := by
  refine ⟨?_, ?_, ?_⟩
  · intro o ho
    funext j
    simp only [up_rd]
    rw [if_neg (by omega), if_neg (by omega), if_neg (by omega), if_neg (by omega)]
  · intro c hc c9 c10 j hj
    have : c = 0 := by omega
    subst this
    have : j < 4 := hj
    rcases (show j = 0 ∨ j = 1 ∨ j = 2 ∨ j = 3 by omega) with rfl | rfl | rfl | rfl <;> simp [up_rd]
  · intro c hc
    funext j
    simp only [up_rd]
    rw [if_neg (by omega), if_neg (by omega), if_neg (by omega), if_neg (by omega)]
theorem KC_9 {τ : Mem} (h : KC v w 9 σ τ) : KC v w 11 σ τ := by
  obtain ⟨a1, a2, a3⟩ := h
  exact ⟨a1, fun c hc c9 c10 => a2 c (by omega) c9 c10, fun c hc => a3 c (by omega)⟩
theorem KC_RC {τ : Mem} (h : KC v w 15 σ τ) (hR : RC w S σ) (h0 : σ (v + 10) 0 = 0) : RC v S τ := by
  obtain ⟨a1, a2, a3⟩ := h
  obtain ⟨h1, h2, h3, h4, h5, h6, h7, h8, h9, h10, h11⟩ := hR
  refine ⟨?_, ?_, ?_, ?_, ?_, ?_, ?_, ?_, ?_, ?_, ?_⟩
  · intro j hj; exact (a2 0 (by omega) (by omega) (by omega) j hj).trans (h1 j hj)
  · intro a b q q'; exact (a2 1 (by omega) (by omega) (by omega) _ (rn_lt b q' a q)).trans (h2 a b q q')
  · intro a b q q'; exact (a2 2 (by omega) (by omega) (by omega) _ (rn_lt b q' a q)).trans (h3 a b q q')
  · intro a b f q q' hf
    have := rn_lt b q' a q
    exact (a2 3 (by omega) (by omega) (by omega) _ (show 3 * rn a b + f < 45 by omega)).trans (h4 a b f q q' hf)
  · intro j hj; exact (a2 4 (by omega) (by omega) (by omega) j hj).trans (h5 j hj)
  · intro j hj; exact (a2 5 (by omega) (by omega) (by omega) j hj).trans (h6 j hj)
  · intro j hj; exact (a2 6 (by omega) (by omega) (by omega) j hj).trans (h7 j hj)
  · intro j hj; exact (a2 7 (by omega) (by omega) (by omega) j hj).trans (h8 j hj)
  · intro j hj; exact (a2 8 (by omega) (by omega) (by omega) j hj).trans (h9 j hj)
  · intro p f hp hf
    have hl : f < lnv (11 + p) := by
      rcases (show p = 0 ∨ p = 1 ∨ p = 2 ∨ p = 3 by omega) with rfl | rfl | rfl | rfl <;> exact hf
    have := a2 (11 + p) (by omega) (by omega) (by omega) f hl
    rw [Nat.add_assoc, this, ← Nat.add_assoc]; exact h10 p f hp hf
  · rw [a3 10 (by omega)]; exact h0
theorem RC_Fr (hd : v + 15 ≤ w ∨ w + 15 ≤ v) {τ : Mem} (hF : Fr v σ τ) (hR : RC w S σ) : RC w S τ := by
  obtain ⟨h1, h2, h3, h4, h5, h6, h7, h8, h9, h10, h11⟩ := hR
  refine ⟨?_, ?_, ?_, ?_, ?_, ?_, ?_, ?_, ?_, ?_, ?_⟩
  · intro j hj; rw [hF w (by omega)]; exact h1 j hj
  · intro a b q q'; rw [hF (w + 1) (by omega)]; exact h2 a b q q'
  · intro a b q q'; rw [hF (w + 2) (by omega)]; exact h3 a b q q'
  · intro a b f q q' hf; rw [hF (w + 3) (by omega)]; exact h4 a b f q q' hf
  · intro j hj; rw [hF (w + 4) (by omega)]; exact h5 j hj
  · intro j hj; rw [hF (w + 5) (by omega)]; exact h6 j hj
  · intro j hj; rw [hF (w + 6) (by omega)]; exact h7 j hj
  · intro j hj; rw [hF (w + 7) (by omega)]; exact h8 j hj
  · intro j hj; rw [hF (w + 8) (by omega)]; exact h9 j hj
  · intro p f hp hf; rw [hF (w + 11 + p) (by omega)]; exact h10 p f hp hf
  · rw [hF (w + 10) (by omega)]; exact h11
theorem x_becomeLike (hv : IsV v) (hw : IsV w) (hvw : v ≠ w) (hR : RC w S σ) (hS : VS B S) (h0 : σ (v + 10) 0 = 0) (d : Option PV) : ∃ τ, (∀ Q : PQ, X L 49 0 [some (xR v), some (xR w), d] [] σ Q = Q none τ) ∧ RC v S τ ∧ Fr v σ τ := by
  have hd := V_dis hv hw hvw
  have k1 := KC_0 (σ := σ) hd
  have k2 := KC_cp (n := 15) hd k1 (by omega) (by omega) (by omega) rfl
  have k3 := KC_cp (n := 15) hd k2 (by omega) (by omega) (by omega) rfl
  have k4 := KC_cp (n := 45) hd k3 (by omega) (by omega) (by omega) rfl
  have k5 := KC_cp (n := 6) hd k4 (by omega) (by omega) (by omega) rfl
  have k6 := KC_cp (n := 6) hd k5 (by omega) (by omega) (by omega) rfl
  have k7 := KC_cp (n := 30) hd k6 (by omega) (by omega) (by omega) rfl
  have k8 := KC_cp (n := 6) hd k7 (by omega) (by omega) (by omega) rfl
  have k9 := KC_9 (KC_cp (n := 6) hd k8 (by omega) (by omega) (by omega) rfl)
  have hP : ∀ m p : Nat, p + m = 4 → ∀ τ, KC v w (11 + p) σ τ → ∃ τ', (∀ Q : PQ, X L 49 122 [some (xR v), some (xR w), some (xI (p : Int))] [] τ Q = Q none τ') ∧ KC v w 15 σ τ' := by
    intro m
    induction m with
    | zero =>
      intro p hp τ hK
      have : p = 4 := by omega
      subst this
      refine ⟨τ, ?_, hK⟩
      intro Q
      rw [e_49_122]
      simp only [e_49_146, brI]
      rw [if_pos (by omega)]
    | succ m ih =>
      intro p hp τ hK
      obtain ⟨τ', e, hK'⟩ := ih (p + 1) (by omega) _ (KC_P hd hK (by omega))
      refine ⟨τ', ?_, hK'⟩
      intro Q
      obtain ⟨a1, a2, a3, a4, a5, a6, a7, a8, a9⟩ := hS.p (p := p) (by omega)
      have r : ∀ j, j < 11 → τ (w + 11 + p) j = S (8 + p) j := by
        intro j hj
        rw [hK.1 (w + 11 + p) (by omega)]; exact hR.p (by omega) hj
      rw [e_49_122]
      simp only [brI, gv_t hv, gv_t hw, true_and, x_personAt hv (p := p) (by omega), x_personAt hw (p := p) (by omega), retR_R, gt_p hv (p := p) (by omega)]
      rw [if_neg (by omega), x_cpP (gt_p hv (by omega)) (gt_p hw (by omega)) (by omega) (by rw [r 0 (by omega)]; exact a1) (by rw [r 6 (by omega)]; exact a7) (by rw [r 7 (by omega)]; exact a8)]
      simp only [retV_N]
      rw [w32_id (by omega) (by omega), ← e Q]
      rfl
  obtain ⟨τ, e, hK⟩ := hP 4 0 (by omega) _ k9
  refine ⟨τ, ?_, KC_RC hK hR h0, hK.1⟩
  intro Q
  have z : ∀ c d, 1 ≤ c → c ≤ 8 → ∀ (ρ : Mem) (Q : PQ), X L 136 0 [some (xR (w + c)), some (xR (v + c)), d] [] ρ Q = Q none (cpc ρ (w + c) (v + c) 0 (lnv c)) := by
    intro c d h1 h2 ρ Q
    refine x_copyRow (gt_n hw h1 h2) (gt_n hv h1 h2) (gl_n hw h1 h2 L) (gl_n hv h1 h2 L) ?_ (by omega) ρ d Q
    rcases (show c = 1 ∨ c = 2 ∨ c = 3 ∨ c = 4 ∨ c = 5 ∨ c = 6 ∨ c = 7 ∨ c = 8 by omega) with rfl | rfl | rfl | rfl | rfl | rfl | rfl | rfl <;> decide
  have nw : ∀ (ρ : Mem) (i : Nat) (x : Int) (j : Nat), up ρ v i x w j = ρ w j := by
    intro ρ i x j; simp only [up_rd]; rw [if_neg (by omega)]
  rw [e_49_0]
  simp only [gv_t hv, gv_t hw, true_and, gv_4 hv, gv_5 hv, gv_6 hv, gv_7 hv, gv_8 hv, gv_9 hv, gv_10 hv, gv_11 hv, gv_4 hw, gv_5 hw, gv_6 hw, gv_7 hw, gv_8 hw, gv_9 hw, gv_10 hw, gv_11 hw, nw, retV_N, z 1 none (by omega) (by omega), z 2 none (by omega) (by omega), z 3 none (by omega) (by omega), z 4 none (by omega) (by omega), z 5 none (by omega) (by omega), z 6 none (by omega) (by omega), z 7 none (by omega) (by omega), z 8 none (by omega) (by omega)]
  exact e Q
end Copies
