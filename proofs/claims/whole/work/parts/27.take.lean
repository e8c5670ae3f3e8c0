/-! what a step changes -/
def trd (S : Mem) (a b f : Nat) (m : Int) : Mem := fun k j => if k = 3 ∧ (j = 3 * (6 * a + b) + f ∨ j = 3 * (6 * b + a) + f) then S k j + m else S k j
def rnn (a b : Nat) : Nat := rn (min a b) (max a b)
theorem rnn_lt {a b : Nat} (ha : a < 6) (hb : b < 6) (h : a ≠ b) : rnn a b < 15 := rn_lt _ (by omega) _ (by omega)
theorem rnI_n {a b : Nat} (ha : a < 6) (hb : b < 6) (h : a ≠ b) : rnI (a : Int) (b : Int) = (rnn a b : Int) := by
  unfold rnI rnn
  rw [if_pos (by omega)]
  simp
theorem rn_e {a b c d : Nat} (ha : a < 6) (hb : b < 6) (h : a ≠ b) (h3 : c < d) (h4 : d < 6) : rn c d = rnn a b ↔ (c = a ∧ d = b) ∨ (c = b ∧ d = a) := by
  unfold rnn
  constructor
  · intro e
    have := rn_inj h3 h4 (by omega) (by omega) e
    omega
  · rintro (⟨rfl, rfl⟩ | ⟨rfl, rfl⟩)
    · rw [Nat.min_eq_left (by omega), Nat.max_eq_right (by omega)]
    · rw [Nat.min_eq_right (by omega), Nat.max_eq_left (by omega)]
section Takes
variable {v : Nat} {B : Int} {S σ : Mem} {L : Nat}
theorem RC_trd (hR : RC v S σ) {a b f : Nat} (ha : a < 6) (hb : b < 6) (h : a ≠ b) (hf : f < 3) (m : Int) : RC v (trd S a b f m) (up σ (v + 3) (3 * rnn a b + f) (σ (v + 3) (3 * rnn a b + f) + m)) := by
  obtain ⟨h1, h2, h3, h4, h5, h6, h7, h8, h9, h10, h11⟩ := hR
  refine ⟨?_, ?_, ?_, ?_, ?_, ?_, ?_, ?_, ?_, ?_, ?_⟩
  · intro j hj; simpa [up_rd, trd] using h1 j hj
  · intro a b h h'; simpa [up_rd, trd] using h2 a b h h'
  · intro a b h h'; simpa [up_rd, trd] using h3 a b h h'
  · intro c d g h5 h6 h7
    have e := rn_e ha hb h h5 h6
    have e4 := h4 c d g h5 h6 h7
    simp only [up_rd, trd, true_and]
    by_cases q : (c = a ∧ d = b ∨ c = b ∧ d = a) ∧ g = f
    · have e2 := e.mpr q.1
      have e3 := q.2
      rw [if_pos (by omega), if_pos (by omega), ← e2, ← e3, e4]
    · have : ¬ (3 * rn c d + g = 3 * rnn a b + f) := by
        intro e5
        have e6 : rn c d = rnn a b := by omega
        exact q ⟨e.mp e6, by omega⟩
      rw [if_neg this, if_neg (by omega), e4]
  · intro j hj; simpa [up_rd, trd] using h5 j hj
  · intro j hj; simpa [up_rd, trd] using h6 j hj
  · intro j hj; simpa [up_rd, trd] using h7 j hj
  · intro j hj; simpa [up_rd, trd] using h8 j hj
  · intro j hj; simpa [up_rd, trd] using h9 j hj
  · intro p f hp hf
    have := h10 p f hp hf
    simp only [up_rd, trd]
    rw [if_neg (by omega), if_neg (by omega), this]
  · simpa [up_rd] using h11
theorem x_tread (hv : IsV v) {a b f : Nat} (ha : a < 6) (hb : b < 6) (h : a ≠ b) (hf : f < 3) (hR : RC v S σ) (hS : VS B S) (hB : B ≤ 1000000) (d : Option PV) (Q : PQ) : X L 77 0 [some (xR v), some (xI (rnn a b : Int)), some (xI (f : Int)), d] [] σ Q = Q none (up σ (v + 3) (3 * rnn a b + f) (σ (v + 3) (3 * rnn a b + f) + mil S a b)) := by
  have hr := rnn_lt ha hb h
  have e1 : vA L σ (v + 1) (rnn a b : Int) = mil S a b := by rw [← rnI_n ha hb h]; exact rc_mil hv hR hS _ _
  have hm := mil_b hS (a : Int) (b : Int)
  have e2 : vA L σ (v + 3) (3 * (rnn a b : Int) + (f : Int)) = σ (v + 3) (3 * rnn a b + f) := by
    unfold vA
    rw [gl_3 hv, if_pos (by omega), show (3 * (rnn a b : Int) + (f : Int)).toNat = 3 * rnn a b + f by omega]
  have e3 : 0 ≤ σ (v + 3) (3 * rnn a b + f) ∧ σ (v + 3) (3 * rnn a b + f) ≤ B := by
    unfold rnn
    rw [hR.2.2.2.1 _ _ f (by omega) (by omega) hf]
    exact (hS.tr (by omega) (by omega) hf).1
  simp only [e_77_0, gv_t hv, gv_4 hv, gv_6 hv, true_and, x_valueAt L (v + 1) _ _ _ (gt_1 hv), x_valueAt L (v + 3) _ _ _ (gt_3 hv), x_put L (v + 3) _ _ _ _ (gt_3 hv), retI_I, retV_N, w32_id (x := 3 * (rnn a b : Int)) (by omega) (by omega), w32_id (x := 3 * (rnn a b : Int) + (f : Int)) (by omega) (by omega), e1, e2, w32_id (x := σ (v + 3) (3 * rnn a b + f) + mil S a b) (by omega) (by omega)]
  unfold pA
  rw [gl_3 hv, if_pos (by omega), show (3 * (rnn a b : Int) + (f : Int)).toNat = 3 * rnn a b + f by omega]
theorem VS_trd (hS : VS B S) {a b f : Nat} (ha : a < 6) (hb : b < 6) (hf : f < 3) (m : Int) (hm : 0 ≤ m ∧ m ≤ 9) : VS (B + 9) (trd S a b f m) := by
  obtain ⟨h1, h2, h3, h4, h5, h6, h7, h8, h9, h10, h11, h12, h13⟩ := hS.mono (show B ≤ B + 9 by omega)
  refine ⟨by simpa [trd] using h1, by simpa [trd] using h2, by simpa [trd] using h3, by simpa [trd] using h4, by simpa [trd] using h5, by simpa [trd] using h6, ?_, by simpa [trd] using h8, by simpa [trd] using h9, by simpa [trd] using h10, by simpa [trd] using h11, by simpa [trd] using h12, ?_⟩
  · intro c d g hc hd hg
    have q := hS.tr hc hd hg
    simp only [trd, true_and]
    refine ⟨?_, ?_⟩
    · split <;> omega
    · by_cases e : 3 * (6 * c + d) + g = 3 * (6 * a + b) + f ∨ 3 * (6 * c + d) + g = 3 * (6 * b + a) + f
      · rw [if_pos e, if_pos (by omega), q.2]
      · rw [if_neg e, if_neg (by omega), q.2]
  · intro p hp
    have := h13 p hp
    have e : ∀ k, trd S a b f m (8 + p) k = S (8 + p) k := fun k => by simp [trd]; omega
    have e0 : trd S a b f m 0 0 = S 0 0 := by simp [trd]
    unfold VP at this ⊢
    rw [e0]
    simp only [e]
    exact this
/-! a Person's fields as a whole -/
def pw (σ : Mem) (c : Nat) (g : Nat → Int) : Mem := fun o j => if o = c then g j else σ o j
theorem RC_pw (hR : RC v S σ) {p : Nat} (hp : p < 4) {g h : Nat → Int} (e : ∀ j, j < 11 → g j = h j) : RC v (pw S (8 + p) h) (pw σ (v + 11 + p) g) := by
  obtain ⟨h1, h2, h3, h4, h5, h6, h7, h8, h9, h10, h11⟩ := hR
  refine ⟨?_, ?_, ?_, ?_, ?_, ?_, ?_, ?_, ?_, ?_, ?_⟩
  · intro j hj; simp only [pw]; rw [if_neg (by omega), if_neg (by omega)]; exact h1 j hj
  · intro a b q q'; simp only [pw]; rw [if_neg (by omega), if_neg (by omega)]; exact h2 a b q q'
  · intro a b q q'; simp only [pw]; rw [if_neg (by omega), if_neg (by omega)]; exact h3 a b q q'
  · intro a b f q q' q2; simp only [pw]; rw [if_neg (by omega), if_neg (by omega)]; exact h4 a b f q q' q2
  · intro j hj; simp only [pw]; rw [if_neg (by omega), if_neg (by omega)]; exact h5 j hj
  · intro j hj; simp only [pw]; rw [if_neg (by omega), if_neg (by omega)]; exact h6 j hj
  · intro j hj; simp only [pw]; rw [if_neg (by omega), if_neg (by omega)]; exact h7 j hj
  · intro j hj; simp only [pw]; rw [if_neg (by omega), if_neg (by omega)]; exact h8 j hj
  · intro j hj; simp only [pw]; rw [if_neg (by omega), if_neg (by omega)]; exact h9 j hj
  · intro q f hq hf
    simp only [pw]
    by_cases c : q = p
    · rw [if_pos (by omega), if_pos (by omega)]; exact e f hf
    · rw [if_neg (by omega), if_neg (by omega)]; exact h10 q f hq hf
  · simp only [pw]; rw [if_neg (by omega)]; exact h11
def fV (B n : Int) (f : Nat → Int) : Prop :=
  (f 0 = 0 ∨ f 0 = 1) ∧ (0 ≤ f 1 ∧ f 1 < n) ∧ (0 ≤ f 2 ∧ f 2 < n) ∧ (0 ≤ f 3 ∧ f 3 ≤ 4) ∧ (0 ≤ f 4 ∧ f 4 ≤ 4) ∧ (0 ≤ f 5 ∧ f 5 ≤ 99) ∧ (f 6 = 0 ∨ f 6 = 1) ∧ (f 7 = 0 ∨ f 7 = 1) ∧ (0 ≤ f 8 ∧ f 8 ≤ B) ∧ (0 ≤ f 9 ∧ f 9 ≤ B) ∧ (0 ≤ f 10 ∧ f 10 ≤ B) ∧ (f 6 = 0 → f 8 = 0) ∧ (f 7 = 0 → f 9 = 0)
theorem VS_pw (hS : VS B S) {p : Nat} {h : Nat → Int} (e : fV B (S 0 0) h) : VS B (pw S (8 + p) h) := by
  obtain ⟨h1, h2, h3, h4, h5, h6, h7, h8, h9, h10, h11, h12, h13⟩ := hS
  have z : ∀ k j, k < 8 → pw S (8 + p) h k j = S k j := by
    intro k j hk; simp only [pw]; rw [if_neg (by omega)]
  refine ⟨?_, ?_, ?_, ?_, ?_, ?_, ?_, ?_, ?_, ?_, ?_, ?_, ?_⟩
  · rw [z _ _ (by omega)]; exact h1
  · rw [z _ _ (by omega)]; exact h2
  · rw [z _ _ (by omega)]; exact h3
  · rw [z _ _ (by omega)]; exact h4
  · intro a b ha hb; rw [z 1 _ (by omega), z 1 _ (by omega), z 0 _ (by omega)]; exact h5 a b ha hb
  · intro a b ha hb; rw [z 2 _ (by omega), z 2 _ (by omega)]; exact h6 a b ha hb
  · intro a b f ha hb hf; rw [z 3 _ (by omega), z 3 _ (by omega)]; exact h7 a b f ha hb hf
  · intro j hj; rw [z 4 _ (by omega)]; exact h8 j hj
  · intro j hj; rw [z 5 _ (by omega)]; exact h9 j hj
  · intro j hj; rw [z 6 _ (by omega)]; exact h10 j hj
  · intro j hj; rw [z 7 _ (by omega)]; exact h11 j hj
  · intro j hj; rw [z 7 _ (by omega)]; exact h12 j hj
  · intro q hq
    by_cases c : q = p
    · have : ∀ j, pw S (8 + p) h (8 + q) j = h j := by intro j; simp only [pw]; rw [if_pos (by omega)]
      unfold VP
      rw [z 0 _ (by omega)]
      simp only [this]
      exact e
    · have : ∀ j, pw S (8 + p) h (8 + q) j = S (8 + q) j := by intro j; simp only [pw]; rw [if_neg (by omega)]
      unfold VP
      rw [z 0 _ (by omega)]
      simp only [this]
      exact h13 q hq
theorem Fr_pw {c : Nat} {g : Nat → Int} (h : v ≤ c ∧ c < v + 15) : Fr v σ (pw σ c g) := by
  intro o ho; funext j; simp only [pw]; rw [if_neg (by omega)]
def fW (f : Nat → Int) (m t : Int) : Nat → Int := fun j => if j = 2 then t else if j = 10 then f 10 + m else if j = 9 then (if f 7 = 0 then f 9 else f 9 + m) else if j = 8 then (if f 6 = 0 then f 8 else f 8 + m) else f j
theorem wlk_pw (pa : Nat) (m t : Int) : wlk σ pa m t = pw σ pa (fW (σ pa) m t) := by
  funext o j
  simp only [wlk, up_rd, pw, fW]
  by_cases c : o = pa
  · subst c
    simp only [true_and, if_true]
  · simp [c]
def fTh (f : Nat → Int) : Nat → Int := fun j => if j = 6 ∨ j = 7 ∨ j = 8 ∨ j = 9 then 0 else f j
theorem thr_pw (pa : Nat) : up (up (up (up σ pa 6 0) pa 7 0) pa 8 0) pa 9 0 = pw σ pa (fTh (σ pa)) := by
  funext o j
  simp only [up_rd, pw, fTh]
  by_cases c : o = pa
  · subst c
    simp only [true_and, if_true]
    by_cases j6 : j = 6
    · simp [j6]
    by_cases j7 : j = 7
    · simp [j7]
    by_cases j8 : j = 8
    · simp [j8]
    by_cases j9 : j = 9 <;> simp [j6, j7, j8, j9]
  · simp [c]
def fB (f : Nat → Int) (s pr : Int) : Nat → Int := fun j => if j = 5 then f 5 - pr else if s = 1 then (if j = 6 then 1 else f j) else (if j = 7 then 1 else f j)
theorem RC_up6 (hR : RC v S σ) (i : Nat) (x : Int) : RC v (up S 6 i x) (up σ (v + 6) i x) := by
  obtain ⟨h1, h2, h3, h4, h5, h6, h7, h8, h9, h10, h11⟩ := hR
  refine ⟨?_, ?_, ?_, ?_, ?_, ?_, ?_, ?_, ?_, ?_, ?_⟩
  · intro j hj; simpa [up_rd] using h1 j hj
  · intro a b h h'; simpa [up_rd] using h2 a b h h'
  · intro a b h h'; simpa [up_rd] using h3 a b h h'
  · intro a b f h h' h2; simpa [up_rd] using h4 a b f h h' h2
  · intro j hj; simpa [up_rd] using h5 j hj
  · intro j hj; simpa [up_rd] using h6 j hj
  · intro j hj; simp only [up_rd, true_and]; rw [h7 j hj]
  · intro j hj; simpa [up_rd] using h8 j hj
  · intro j hj; simpa [up_rd] using h9 j hj
  · intro p f hp hf
    have := h10 p f hp hf
    simp only [up_rd]
    rw [if_neg (by omega), if_neg (by omega), this]
  · simpa [up_rd] using h11
theorem VS_up6 (hS : VS B S) (i : Nat) (x : Int) (hx : 0 ≤ x ∧ x ≤ 9) : VS B (up S 6 i x) := by
  obtain ⟨h1, h2, h3, h4, h5, h6, h7, h8, h9, h10, h11, h12, h13⟩ := hS
  refine ⟨by simpa [up_rd] using h1, by simpa [up_rd] using h2, by simpa [up_rd] using h3, by simpa [up_rd] using h4, by simpa [up_rd] using h5, by simpa [up_rd] using h6, by simpa [up_rd] using h7, by simpa [up_rd] using h8, by simpa [up_rd] using h9, ?_, by simpa [up_rd] using h11, by simpa [up_rd] using h12, ?_⟩
  · intro j hj; have := h10 j hj; simp only [up_rd, true_and]; split <;> omega
  · intro p hp
    have := h13 p hp
    have e : ∀ k, up S 6 i x (8 + p) k = S (8 + p) k := fun k => by simp only [up_rd]; rw [if_neg (by omega)]
    have e0 : up S 6 i x 0 0 = S 0 0 := by simp [up_rd]
    unfold VP at this ⊢
    rw [e0]
    simp only [e]
    exact this
theorem x_putStock (hv : IsV v) (t z x : Int) (ht : 0 ≤ t ∧ t < 6) (hz : 0 ≤ z ∧ z < 5) (Q : PQ) : X L 67 0 [some (xR v), some (xI t), some (xI z), some (xI x)] [] σ Q = Q none (up σ (v + 6) (5 * t.toNat + z.toNat) x) := by
  simp only [e_67_0, e_67_20, gv_t hv, gv_9 hv, true_and, x_isSize, retI_I, brI, bI_0, x_put L (v + 6) _ _ _ _ (gt_6 hv), retV_N, w32_id (x := 5 * t) (by omega) (by omega), w32_id (x := 5 * t + z) (by omega) (by omega)]
  rw [if_neg (by simpa using hz)]
  unfold pA
  rw [gl_6 hv, if_pos (by omega), show (5 * t + z).toNat = 5 * t.toNat + z.toNat by omega]
def stW (S : Mem) (p t : Nat) : Mem := pw (trd (trd S (S (8 + p) 2).toNat t (if S (8 + p) 6 = 0 then 2 else 0) (mil S (S (8 + p) 2) t)) (S (8 + p) 2).toNat t (if S (8 + p) 7 = 0 then 2 else 1) (mil S (S (8 + p) 2) t)) (8 + p) (fW (S (8 + p)) (mil S (S (8 + p) 2) t) t)
theorem trd_lo {a b f : Nat} {m : Int} {k j : Nat} (h : k ≠ 3) : trd S a b f m k j = S k j := by simp [trd, h]
theorem mil_trd {a b f : Nat} {m : Int} {t u : Int} : mil (trd S a b f m) t u = mil S t u := by unfold mil; rw [trd_lo (by omega)]
theorem x_walkV (hv : IsV v) (hR : RC v S σ) (hS : VS B S) (hB : B ≤ 900000) {p t : Nat} (hp : p < 4) (hm : ¬ mil S (S (8 + p) 2) t = 0) (d : Option PV) : ∃ τ, (∀ Q : PQ, X L 76 0 [some (xR v), some (xR (v + 11 + p)), some (xI (t : Int)), d] [] σ Q = Q none τ) ∧ RC v (stW S p t) τ ∧ VS (B + 18) (stW S p t) ∧ Fr v σ τ := by
  obtain ⟨a1, a2, a3, a4, a5, a6, a7, a8, a9, a10, a11, a12⟩ := hS.p hp
  have ha := VP_at hS hp
  have hm9 := mil_b hS (S (8 + p) 2) t
  have hne : ¬ S (8 + p) 2 = (t : Int) := by
    intro e; rw [e] at hm; exact hm (mil_d hS t)
  have ht : t < 6 := by
    unfold mil at hm; split at hm
    · omega
    · exact absurd rfl hm
  obtain ⟨a, hae⟩ : ∃ a : Nat, S (8 + p) 2 = (a : Int) := ⟨(S (8 + p) 2).toNat, by omega⟩
  have ha6 : a < 6 := by omega
  have hat : a ≠ t := by omega
  have htn : (t : Int) < S 0 0 := by
    have q := (hS.mi (a := a) (b := t) ha6 ht).2.2
    rw [hae] at hm
    unfold mil at hm; rw [if_pos (by omega)] at hm
    simp only [Int.toNat_natCast] at hm
    omega
  have hr := rnI_n ha6 ht hat
  have e2 := hR.p hp (f := 2) (by omega)
  have e6 := hR.p hp (f := 6) (by omega)
  have e7 := hR.p hp (f := 7) (by omega)
  rw [hae] at e2 hm9
  -- the two treads
  have hf1 : (if S (8 + p) 6 = 0 then 2 else 0) < 3 := by split <;> omega
  have hf2 : (if S (8 + p) 7 = 0 then 2 else 1) < 3 := by split <;> omega
  generalize hf1e : (if S (8 + p) 6 = 0 then 2 else 0) = f1 at hf1
  generalize hf2e : (if S (8 + p) 7 = 0 then 2 else 1) = f2 at hf2
  have hR1 := RC_trd hR ha6 ht hat hf1 (mil S a t)
  have hS1 := VS_trd hS ha6 ht hf1 (mil S a t) hm9
  have hm1 : mil (trd S a t f1 (mil S a t)) a t = mil S a t := mil_trd
  generalize hσ1 : up σ (v + 3) (3 * rnn a t + f1) (σ (v + 3) (3 * rnn a t + f1) + mil S a t) = σ1 at hR1
  have hR2 := RC_trd hR1 ha6 ht hat hf2 (mil S a t)
  have hS2 := VS_trd hS1 ha6 ht hf2 (mil S a t) hm9
  have t1 := fun Q => x_tread (L := L) hv ha6 ht hat hf1 hR hS (by omega) none Q
  have t2 := fun Q => x_tread (L := L) hv ha6 ht hat hf2 hR1 hS1 (by omega) none Q
  rw [hm1] at t2
  rw [hσ1] at t1
  generalize hσ2 : up σ1 (v + 3) (3 * rnn a t + f2) (σ1 (v + 3) (3 * rnn a t + f2) + mil S a t) = σ2 at hR2 t2
  have f10 : ∀ j, σ1 (v + 11 + p) j = σ (v + 11 + p) j := by
    intro j; rw [← hσ1]; simp only [up_rd]; rw [if_neg (by omega)]
  have f20 : ∀ j, σ2 (v + 11 + p) j = σ (v + 11 + p) j := by
    intro j; rw [← hσ2]; simp only [up_rd]; rw [if_neg (by omega), f10]
  refine ⟨wlk σ2 (v + 11 + p) (mil S a t) t, ?_, ?_, ?_, ?_⟩
  · intro Q
    have u1 : ∀ Q : PQ, X L 76 23 [some (xR v), some (xR (v + 11 + p)), some (xI (t : Int)), some (xI (rnn a t : Int))] [xI (f1 : Int), xI (rnn a t : Int), xR v] σ Q = Q none (wlk σ2 (v + 11 + p) (mil S a t) t) := by
      intro Q
      have u2 : ∀ Q : PQ, X L 76 40 [some (xR v), some (xR (v + 11 + p)), some (xI (t : Int)), some (xI (rnn a t : Int))] [xI (f2 : Int), xI (rnn a t : Int), xR v] σ1 Q = Q none (wlk σ2 (v + 11 + p) (mil S a t) t) := by
        intro Q
        have em : vA L σ2 (v + 1) (rnn a t : Int) = mil S a t := by
          rw [← hr, rc_mil hv hR2 hS2, mil_trd, mil_trd]
        simp only [e_76_40, gv_t hv, true_and, t2, retV_N, x_milesOf hv, retI_I, em, gt_p hv hp]
        rw [x_walkP (gt_p hv hp) _ _ hm9 (by rw [f20, hR.p hp (by omega)]; omega) (by rw [f20, hR.p hp (by omega)]; omega) (by rw [f20, hR.p hp (by omega)]; omega)]
        rfl
      simp only [e_76_23, e_76_39, gv_t hv, true_and, t1, retV_N, gt_p hv hp, brI, f10, e7]
      by_cases c : S (8 + p) 7 = 0
      · rw [if_pos c] at hf2e ⊢
        refine Eq.trans ?_ (u2 Q); rw [← hf2e]; rfl
      · rw [if_neg c] at hf2e ⊢
        refine Eq.trans ?_ (u2 Q); rw [← hf2e]; rfl
    simp only [e_76_0, e_76_22, gt_p hv hp, true_and, e2, x_roadNumber, retI_I, hr, brI, e6]
    by_cases c : S (8 + p) 6 = 0
    · rw [if_pos c] at hf1e ⊢
      refine Eq.trans ?_ (u1 Q); rw [← hf1e]; rfl
    · rw [if_neg c] at hf1e ⊢
      refine Eq.trans ?_ (u1 Q); rw [← hf1e]; rfl
  · rw [wlk_pw]
    unfold stW
    rw [hf1e, hf2e, hae, Int.toNat_natCast]
    refine RC_pw hR2 hp ?_
    intro j hj
    unfold fW
    rw [f20, f20, f20, f20, f20, f20, hR.p hp (by omega), hR.p hp (by omega), hR.p hp (by omega), hR.p hp (by omega), hR.p hp (by omega), hR.p hp hj]
  · unfold stW
    rw [hf1e, hf2e, hae, Int.toNat_natCast]
    have hS3 := hS2.mono (show B + 9 + 9 ≤ B + 18 by omega)
    refine VS_pw hS3 ?_
    rw [trd_lo (by omega), trd_lo (by omega)]
    refine ⟨by simpa [fW] using a1, by simpa [fW] using a2, ?_, by simpa [fW] using a4, by simpa [fW] using a5, by simpa [fW] using a6, by simpa [fW] using a7, by simpa [fW] using a8, ?_, ?_, ?_, ?_, ?_⟩
    · simp only [fW, if_true]; omega
    · show 0 ≤ (if S (8 + p) 6 = 0 then S (8 + p) 8 else S (8 + p) 8 + mil S a t) ∧ (if S (8 + p) 6 = 0 then S (8 + p) 8 else S (8 + p) 8 + mil S a t) ≤ B + 18
      split <;> omega
    · show 0 ≤ (if S (8 + p) 7 = 0 then S (8 + p) 9 else S (8 + p) 9 + mil S a t) ∧ (if S (8 + p) 7 = 0 then S (8 + p) 9 else S (8 + p) 9 + mil S a t) ≤ B + 18
      split <;> omega
    · show 0 ≤ S (8 + p) 10 + mil S a t ∧ S (8 + p) 10 + mil S a t ≤ B + 18
      omega
    · show S (8 + p) 6 = 0 → (if S (8 + p) 6 = 0 then S (8 + p) 8 else S (8 + p) 8 + mil S a t) = 0
      intro c; rw [if_pos c]; exact a12.1 c
    · show S (8 + p) 7 = 0 → (if S (8 + p) 7 = 0 then S (8 + p) 9 else S (8 + p) 9 + mil S a t) = 0
      intro c; rw [if_pos c]; exact a12.2 c
  · rw [wlk_pw]
    refine Fr.tr ?_ (Fr_pw (by omega))
    rw [← hσ2, ← hσ1]
    exact Fr.tr (Fr_up (by omega)) (Fr_up (by omega))
def stB (S : Mem) (p : Nat) : Mem := pw (up S 6 (5 * (S (8 + p) 2).toNat + (szo (S (8 + p)) (g1 S 4 6 (S (8 + p) 2))).toNat) (stk S (S (8 + p) 2) (szo (S (8 + p)) (g1 S 4 6 (S (8 + p) 2))) - 1)) (8 + p) (fB (S (8 + p)) (g1 S 4 6 (S (8 + p) 2)) (g1 S 5 6 (S (8 + p) 2)))
theorem x_buyV (hv : IsV v) (hR : RC v S σ) (hS : VS B S) {p : Nat} (hp : p < 4) (hw : whyB S p = 0) (d e : Option PV) : ∃ τ, (∀ Q : PQ, X L 78 0 [some (xR v), some (xR (v + 11 + p)), d, e] [] σ Q = Q none τ) ∧ RC v (stB S p) τ ∧ VS B (stB S p) ∧ Fr v σ τ := by
  obtain ⟨a1, a2, a3, a4, a5, a6, a7, a8, a9, a10, a11, a12⟩ := hS.p hp
  have ha := VP_at hS hp
  have hz : ∀ s, szo (σ (v + 11 + p)) s = szo (S (8 + p)) s := by
    intro s; unfold szo; rw [hR.p hp (by omega), hR.p hp (by omega)]
  have hb : ∀ s, 0 ≤ szo (S (8 + p)) s ∧ szo (S (8 + p)) s < 5 := by
    intro s; unfold szo; split <;> omega
  unfold whyB at hw
  have e2 := hR.p hp (f := 2) (by omega)
  have e5 := hR.p hp (f := 5) (by omega)
  unfold stB
  have hpr : 0 ≤ g1 S 5 6 (S (8 + p) 2) ∧ g1 S 5 6 (S (8 + p) 2) ≤ 20 := by
    unfold g1; rw [if_pos (by omega)]; exact hS.2.2.2.2.2.2.2.2.1 _ (by omega)
  generalize hs : g1 S 4 6 (S (8 + p) 2) = s at hw ⊢
  have hq := hb s
  have hst : stk S (S (8 + p) 2) (szo (S (8 + p)) s) ≤ 9 := by
    unfold stk; rw [if_pos (by omega)]; exact (hS.2.2.2.2.2.2.2.2.2.1 _ (by omega)).2
  by_cases c1 : s = 0 ∨ stk S (S (8 + p) 2) (szo (S (8 + p)) s) ≤ 0
  · rw [if_pos c1] at hw; omega
  rw [if_neg c1] at hw
  by_cases c2 : ¬ wrs (S (8 + p)) s = 0
  · rw [if_pos c2] at hw; omega
  rw [if_neg c2] at hw
  by_cases c3 : S (8 + p) 5 < g1 S 5 6 (S (8 + p) 2)
  · rw [if_pos c3] at hw; omega
  have hR1 := RC_up6 hR (5 * (S (8 + p) 2).toNat + (szo (S (8 + p)) s).toNat) (stk S (S (8 + p) 2) (szo (S (8 + p)) s) - 1)
  have hS1 := VS_up6 hS (5 * (S (8 + p) 2).toNat + (szo (S (8 + p)) s).toNat) (stk S (S (8 + p) 2) (szo (S (8 + p)) s) - 1) (by omega)
  generalize hσ1 : up σ (v + 6) (5 * (S (8 + p) 2).toNat + (szo (S (8 + p)) s).toNat) (stk S (S (8 + p) 2) (szo (S (8 + p)) s) - 1) = σ1 at hR1
  have f10 : ∀ j, σ1 (v + 11 + p) j = σ (v + 11 + p) j := by
    intro j; rw [← hσ1]; simp only [up_rd]; rw [if_neg (by omega)]
  have hg5 : g1 (up S 6 (5 * (S (8 + p) 2).toNat + (szo (S (8 + p)) s).toNat) (stk S (S (8 + p) 2) (szo (S (8 + p)) s) - 1)) 5 6 (S (8 + p) 2) = g1 S 5 6 (S (8 + p) 2) := by
    unfold g1; simp [up_rd]
  refine ⟨pw σ1 (v + 11 + p) (fB (σ (v + 11 + p)) s (g1 S 5 6 (S (8 + p) 2))), ?_, ?_, ?_, ?_⟩
  · intro Q
    simp only [e_78_0, gt_p hv hp, gv_t hv, true_and, e2, x_sideAt hv hR, retI_I, hs, x_sizeOn (gt_p hv hp), hz, x_stockAt hv hR _ _ ha, x_putStock hv _ _ _ ha hq, retV_N, w32_id (x := stk S (S (8 + p) 2) (szo (S (8 + p)) s) - 1) (by omega) (by omega), hσ1, f10, x_priceAt hv hR1, hg5, e5, w32_id (x := S (8 + p) 5 - g1 S 5 6 (S (8 + p) 2)) (by omega) (by omega), x_putOn (gt_p hv hp)]
    congr 1
    funext o j
    simp only [pw, fB]
    by_cases co : o = v + 11 + p
    · subst co
      by_cases cs : s = 1
      · simp only [cs, if_true, up_rd, true_and]
        by_cases j5 : j = 5
        · simp [j5, e5]
        · by_cases j6 : j = 6 <;> simp [j5, j6, f10]
      · simp only [cs, if_false, up_rd, true_and, if_true]
        by_cases j5 : j = 5
        · simp [j5, e5]
        · by_cases j7 : j = 7 <;> simp [j5, j7, f10]
    · by_cases cs : s = 1 <;> simp [cs, up_rd, co]
  · refine RC_pw hR1 hp ?_
    intro j hj
    unfold fB
    rw [e5, hR.p hp hj]
  · refine VS_pw hS1 ?_
    rw [show up S 6 (5 * (S (8 + p) 2).toNat + (szo (S (8 + p)) s).toNat) (stk S (S (8 + p) 2) (szo (S (8 + p)) s) - 1) 0 0 = S 0 0 by simp [up_rd]]
    have c2' : wrs (S (8 + p)) s = 0 := by simpa using c2
    unfold wrs at c2'
    unfold fV fB
    by_cases cs : s = 1
    · rw [if_pos cs] at c2'
      simp [cs]
      have := a12.1 c2'
      exact ⟨a1, a2, a3, a4, a5, by omega, a8, a9, a10, a11, a12.2⟩
    · rw [if_neg cs] at c2'
      simp [cs]
      have := a12.2 c2'
      exact ⟨a1, a2, a3, a4, a5, by omega, a7, a9, a10, a11, a12.1⟩
  · refine Fr.tr ?_ (Fr_pw (by omega))
    rw [← hσ1]
    exact Fr_up (by omega)
def stp (S : Mem) (p : Nat) (d : Int) : Mem := if d < 6 then stW S p d.toNat else if d = 6 then stB S p else pw S (8 + p) (fTh (S (8 + p)))
theorem x_take (hv : IsV v) (hR : RC v S σ) (hS : VS B S) (hB : B ≤ 900000) {p : Nat} (hp : p < 4) {d : Int} (hd : 0 ≤ d) (hw : why S p d = 0) (d3 : Option PV) : ∃ τ, (∀ Q : PQ, X L 75 0 [some (xR v), some (xI (p : Int)), some (xI d), d3] [] σ Q = Q none τ) ∧ RC v (stp S p d) τ ∧ VS (B + 18) (stp S p d) ∧ Fr v σ τ := by
  unfold why at hw
  have c1 : ¬ S (8 + p) 0 = 0 := by intro c; rw [if_pos c] at hw; omega
  rw [if_neg c1] at hw
  unfold stp
  by_cases c2 : d < 6
  · rw [if_neg (by omega), if_pos c2] at hw
    obtain ⟨t, rfl⟩ : ∃ t : Nat, d = (t : Int) := ⟨d.toNat, by omega⟩
    have hm : ¬ mil S (S (8 + p) 2) t = 0 := by
      intro c; unfold whyW at hw; rw [if_pos c] at hw; omega
    obtain ⟨τ, e, h1, h2, h3⟩ := x_walkV (L := L) hv hR hS hB hp hm none
    rw [if_pos c2, Int.toNat_natCast]
    refine ⟨τ, ?_, h1, h2, h3⟩
    intro Q
    simp only [e_75_0, e_75_40, gv_t hv, true_and, x_personAt hv hp, retR_R, x_isWalk, retI_I, brI, bI_0, e, retV_N]
    rw [if_neg (by omega)]
  · rw [if_neg c2]
    by_cases c3 : d = 6
    · rw [if_pos c3]
      rw [if_neg (by omega), if_neg c2] at hw
      obtain ⟨τ, e, h1, h2, h3⟩ := x_buyV (L := L) hv hR hS hp hw none none
      refine ⟨τ, ?_, h1, h2.mono (by omega), h3⟩
      intro Q
      simp only [e_75_0, e_75_22, e_75_40, gv_t hv, true_and, x_personAt hv hp, retR_R, x_isWalk, retI_I, brI, bI_0, e, retV_N]
      rw [if_pos c2, if_neg (by simpa using c3)]
    · rw [if_neg c3]
      obtain ⟨a1, a2, a3, a4, a5, a6, a7, a8, a9, a10, a11, a12⟩ := hS.p hp
      refine ⟨pw σ (v + 11 + p) (fTh (σ (v + 11 + p))), ?_, ?_, ?_, Fr_pw (by omega)⟩
      · intro Q
        simp only [e_75_0, e_75_22, e_75_36, e_75_40, gv_t hv, gt_p hv hp, true_and, x_personAt hv hp, retR_R, x_isWalk, retI_I, brI, bI_0, x_throw (gt_p hv hp), retV_N, thr_pw]
        rw [if_pos c2, if_pos c3]
      · refine RC_pw hR hp ?_
        intro j hj
        unfold fTh
        rw [hR.p hp hj]
      · refine VS_pw (hS.mono (by omega)) ?_
        unfold fV fTh
        simp
        exact ⟨a1, a2, a3, a4, a5, a6, by omega, by omega⟩
end Takes
