/-! the Model's cells hold the abstract state: three views (kept, now, image n) -/
def thb (S : Mem) : Int := S 8 0 + 2 * S 9 0 + 4 * S 10 0 + 8 * S 11 0
def RP (f : Nat → Nat → Int) (S : Mem) (p : Nat) : Prop :=
  (f 8 p = S (8 + p) 1) ∧
  (f 9 (2 * p) = S (8 + p) 3) ∧
  (f 9 (2 * p + 1) = S (8 + p) 4) ∧
  (f 10 p = S (8 + p) 5) ∧
  (f 11 p = S (8 + p) 2) ∧
  (f 12 p = S (8 + p) 6 + 2 * S (8 + p) 7) ∧
  (f 13 (2 * p) = S (8 + p) 8) ∧
  (f 13 (2 * p + 1) = S (8 + p) 9) ∧
  (f 14 p = S (8 + p) 10)
theorem RP.ho {f : Nat → Nat → Int} {S : Mem} {p : Nat} (h : RP f S p) : f 8 p = S (8 + p) 1 := h.1
theorem RP.fl {f : Nat → Nat → Int} {S : Mem} {p : Nat} (h : RP f S p) : f 9 (2 * p) = S (8 + p) 3 := h.2.1
theorem RP.fr {f : Nat → Nat → Int} {S : Mem} {p : Nat} (h : RP f S p) : f 9 (2 * p + 1) = S (8 + p) 4 := h.2.2.1
theorem RP.pu {f : Nat → Nat → Int} {S : Mem} {p : Nat} (h : RP f S p) : f 10 p = S (8 + p) 5 := h.2.2.2.1
theorem RP.pl {f : Nat → Nat → Int} {S : Mem} {p : Nat} (h : RP f S p) : f 11 p = S (8 + p) 2 := h.2.2.2.2.1
theorem RP.sh {f : Nat → Nat → Int} {S : Mem} {p : Nat} (h : RP f S p) : f 12 p = S (8 + p) 6 + 2 * S (8 + p) 7 := h.2.2.2.2.2.1
theorem RP.wl {f : Nat → Nat → Int} {S : Mem} {p : Nat} (h : RP f S p) : f 13 (2 * p) = S (8 + p) 8 := h.2.2.2.2.2.2.1
theorem RP.wr {f : Nat → Nat → Int} {S : Mem} {p : Nat} (h : RP f S p) : f 13 (2 * p + 1) = S (8 + p) 9 := h.2.2.2.2.2.2.2.1
theorem RP.wk {f : Nat → Nat → Int} {S : Mem} {p : Nat} (h : RP f S p) : f 14 p = S (8 + p) 10 := h.2.2.2.2.2.2.2.2
def RM (f : Nat → Nat → Int) (S : Mem) : Prop :=
  (f 0 0 = S 0 0) ∧
  (f 0 1 = S 0 1) ∧
  (f 0 2 = S 0 2) ∧
  (f 0 3 = S 0 3) ∧
  (f 0 4 = thb S) ∧
  (∀ j, j < 36 → f 1 j = S 1 j) ∧
  (∀ j, j < 36 → f 2 j = S 2 j) ∧
  (∀ j, j < 108 → f 3 j = S 3 j) ∧
  (∀ j, j < 6 → f 4 j = S 4 j) ∧
  (∀ j, j < 6 → f 5 j = S 5 j) ∧
  (∀ j, j < 30 → f 6 j = S 6 j) ∧
  (∀ j, j < 12 → f 7 j = S 7 j) ∧
  (∀ p, p < 4 → S (8 + p) 0 = 1 → RP f S p)
theorem RM.tw {f : Nat → Nat → Int} {S : Mem} (h : RM f S) : f 0 0 = S 0 0 := h.1
theorem RM.tl {f : Nat → Nat → Int} {S : Mem} (h : RM f S) : f 0 1 = S 0 1 := h.2.1
theorem RM.kk {f : Nat → Nat → Int} {S : Mem} (h : RM f S) : f 0 2 = S 0 2 := h.2.2.1
theorem RM.sg {f : Nat → Nat → Int} {S : Mem} (h : RM f S) : f 0 3 = S 0 3 := h.2.2.2.1
theorem RM.th {f : Nat → Nat → Int} {S : Mem} (h : RM f S) : f 0 4 = thb S := h.2.2.2.2.1
theorem RM.mi {f : Nat → Nat → Int} {S : Mem} (h : RM f S) : ∀ j, j < 36 → f 1 j = S 1 j := h.2.2.2.2.2.1
theorem RM.ru {f : Nat → Nat → Int} {S : Mem} (h : RM f S) : ∀ j, j < 36 → f 2 j = S 2 j := h.2.2.2.2.2.2.1
theorem RM.tr {f : Nat → Nat → Int} {S : Mem} (h : RM f S) : ∀ j, j < 108 → f 3 j = S 3 j := h.2.2.2.2.2.2.2.1
theorem RM.sd {f : Nat → Nat → Int} {S : Mem} (h : RM f S) : ∀ j, j < 6 → f 4 j = S 4 j := h.2.2.2.2.2.2.2.2.1
theorem RM.pr {f : Nat → Nat → Int} {S : Mem} (h : RM f S) : ∀ j, j < 6 → f 5 j = S 5 j := h.2.2.2.2.2.2.2.2.2.1
theorem RM.st {f : Nat → Nat → Int} {S : Mem} (h : RM f S) : ∀ j, j < 30 → f 6 j = S 6 j := h.2.2.2.2.2.2.2.2.2.2.1
theorem RM.si {f : Nat → Nat → Int} {S : Mem} (h : RM f S) : ∀ j, j < 12 → f 7 j = S 7 j := h.2.2.2.2.2.2.2.2.2.2.2.1
theorem RM.pp {f : Nat → Nat → Int} {S : Mem} (h : RM f S) : ∀ p, p < 4 → S (8 + p) 0 = 1 → RP f S p := h.2.2.2.2.2.2.2.2.2.2.2.2
def vP (σ : Mem) (k j : Nat) : Int := match k with
  | 0 => (match j with | 0 => σ 75 0 | 1 => σ 75 7 | 2 => σ 75 8 | 3 => σ 75 17 | _ => σ 75 9)
  | 1 => σ 76 j | 2 => σ 77 j | 3 => σ 78 j | 4 => σ 79 j | 5 => σ 80 j | 6 => σ 81 j | 7 => σ 89 j
  | 8 => σ 82 j | 9 => σ 83 j | 10 => σ 84 j | 11 => σ 85 j | 12 => σ 86 j | 13 => σ 87 j | _ => σ 88 j
def vN (σ : Mem) (k j : Nat) : Int := match k with
  | 0 => (match j with | 0 => σ 75 0 | 1 => σ 75 7 | 2 => σ 75 8 | 3 => σ 75 17 | _ => σ 75 9)
  | 1 => σ 76 j | 2 => σ 77 j | 3 => σ 97 j | 4 => σ 79 j | 5 => σ 80 j | 6 => σ 96 j | 7 => σ 89 j
  | 8 => σ 82 j | 9 => σ 83 j | 10 => σ 91 j | 11 => σ 92 j | 12 => σ 93 j | 13 => σ 94 j | _ => σ 95 j
def vI (n : Nat) (σ : Mem) (k j : Nat) : Int := match k with
  | 0 => (match j with | 0 => σ 102 (320 * n + 270) | 1 => σ 102 (320 * n + 271) | 2 => σ 102 (320 * n + 272) | 3 => σ 102 (320 * n + 274) | _ => σ 102 (320 * n + 273))
  | 1 => σ 102 (320 * n + j) | 2 => σ 102 (320 * n + 36 + j) | 3 => σ 102 (320 * n + 72 + j) | 4 => σ 102 (320 * n + 210 + j) | 5 => σ 102 (320 * n + 216 + j) | 6 => σ 102 (320 * n + 180 + j) | 7 => σ 102 (320 * n + 258 + j)
  | 8 => σ 102 (320 * n + 238 + j) | 9 => σ 102 (320 * n + 222 + j) | 10 => σ 102 (320 * n + 242 + j) | 11 => σ 102 (320 * n + 246 + j) | 12 => σ 102 (320 * n + 250 + j) | 13 => σ 102 (320 * n + 230 + j) | _ => σ 102 (320 * n + 254 + j)
section Mod
variable {B : Int} {S σ : Mem} {L : Nat}
theorem bit_thb (hS : VS B S) {p : Nat} (hp : p < 4) : bit (thb S) (p : Int) ↔ S (8 + p) 0 = 1 := by
  have h0 := (hS.p (p := 0) (by omega)).1
  have h1 := (hS.p (p := 1) (by omega)).1
  have h2 := (hS.p (p := 2) (by omega)).1
  have h3 := (hS.p (p := 3) (by omega)).1
  simp only [Nat.add_zero, Nat.reduceAdd] at h0 h1 h2 h3
  unfold thb
  rcases (show p = 0 ∨ p = 1 ∨ p = 2 ∨ p = 3 by omega) with rfl | rfl | rfl | rfl <;> simp only [Nat.add_zero, Nat.reduceAdd] <;> rcases h0 with h0 | h0 <;> rcases h1 with h1 | h1 <;> rcases h2 with h2 | h2 <;> rcases h3 with h3 | h3 <;> rw [h0, h1, h2, h3] <;> decide
theorem thb_b (hS : VS B S) : 0 ≤ thb S ∧ thb S ≤ 15 := by
  have h0 := (hS.p (p := 0) (by omega)).1
  have h1 := (hS.p (p := 1) (by omega)).1
  have h2 := (hS.p (p := 2) (by omega)).1
  have h3 := (hS.p (p := 3) (by omega)).1
  simp only [Nat.add_zero, Nat.reduceAdd] at h0 h1 h2 h3
  unfold thb
  omega
theorem x_isThereM (hS : VS B S) (h : σ 75 9 = thb S) (p : Int) (Q : PQ) : X L 144 0 [some (xR 75), some (xI p)] [] σ Q = Q (some (xI (thr S p))) σ := by
  simp only [e_144_0, e_144_24, e_144_25, brI, cTag, true_and, x_in, x_has, retI_I, bI_0, h]
  unfold thr
  by_cases c : 0 ≤ p ∧ p < 4
  · obtain ⟨q, rfl⟩ : ∃ q : Nat, p = (q : Int) := ⟨p.toNat, by omega⟩
    have hb := bit_thb hS (p := q) (by omega)
    rw [if_neg (by omega), if_pos c, Int.toNat_natCast]
    rcases (hS.p (p := q) (by omega)).1 with e | e
    · rw [if_pos (by rw [hb]; omega), e]; simp
    · rw [if_neg (by rw [hb]; omega), e]; simp
  · rw [if_pos (by omega), if_neg c]; simp
theorem x_doesLimp (k l r : Int) (hk : 1 ≤ σ 75 8) (hl : 0 ≤ l ∧ l ≤ 1000000) (hr : 0 ≤ r ∧ r ≤ 1000000) (d : Option PV) (Q : PQ) : X L 160 0 [some (xR 75), some (xI k), some (xI l), some (xI r), d] [] σ Q = Q (some (xI (bI (k = 1 ∨ k = 2 ∨ (k = 3 ∧ (σ 75 8 ≤ l - r ∨ σ 75 8 ≤ r - l)))))) σ := by
  simp only [e_160_0, e_160_11, e_160_14, e_160_40, e_160_44, e_160_45, brI, cTag, true_and, w32_id (x := l - r) (by omega) (by omega), w32_id (x := r - l) (by omega) (by omega), bI]
  (repeat' split) <;> first | rfl | (exfalso; omega) | (simp; done)
theorem x_limpsNow (hS : VS B S) (hB : B ≤ 1000000) (hM : RM (vN σ) S) {p : Nat} (hp : p < 4) (ht : S (8 + p) 0 = 1) (Q : PQ) : X L 161 0 [some (xR 75), some (xI (p : Int))] [] σ Q = Q (some (xI (bI (lmp (S (8 + p)) (S 0 2))))) σ := by
  obtain ⟨a1, a2, a3, a4, a5, a6, a7, a8, a9, a10, a11, a12⟩ := hS.p hp
  have hk := hS.2.2.1
  have hP := hM.pp p hp ht
  have s1 : σ 93 p = S (8 + p) 6 + 2 * S (8 + p) 7 := hP.sh
  have s2 : σ 94 (2 * p) = S (8 + p) 8 := hP.wl
  have s3 : σ 94 (2 * p + 1) = S (8 + p) 9 := hP.wr
  have s4 : σ 75 8 = S 0 2 := hM.kk
  rw [e_161_0]
  simp only [cTag, cTgt, cLen, true_and, w32_id (x := 2 * (p : Int)) (by omega) (by omega), w32_id (x := 2 * (p : Int) + 1) (by omega) (by omega), Int.toNat_natCast, show (2 * (p : Int)).toNat = 2 * p by omega, show (2 * (p : Int) + 1).toNat = 2 * p + 1 by omega, s1, s2, s3]
  rw [x_doesLimp _ _ _ (by omega) (by omega) (by omega), s4]
  simp only [retI_I, bI_01, true_and]
  rw [bI_c (q := lmp (S (8 + p)) (S 0 2)) (by unfold lmp; omega)]
  simp only [show (0 ≤ (p : Int) ∧ (p : Int) < 4) by omega, show (0 ≤ 2 * (p : Int) ∧ 2 * (p : Int) < 8) by omega, show (0 ≤ 2 * (p : Int) + 1 ∧ 2 * (p : Int) + 1 < 8) by omega, true_and]
theorem mil_at {t u : Nat} (ht : t < 6) (hu : u < 6) : mil S t u = S 1 (6 * t + u) := by
  unfold mil; rw [if_pos (by omega)]; simp
theorem rul_at {t u : Nat} (ht : t < 6) (hu : u < 6) : rul S t u = S 2 (6 * t + u) := by
  unfold rul; rw [if_pos (by omega)]; simp
theorem x_mayWalkM (hS : VS B S) (hm : ∀ j, j < 36 → σ 76 j = S 1 j) (hr : ∀ j, j < 36 → σ 77 j = S 2 j) {t u : Nat} (ht : t < 6) (hu : u < 6) {l : Int} (hl : l = 0 ∨ l = 1) (d : Option PV) (Q : PQ) : X L 162 0 [some (xR 75), some (xI (t : Int)), some (xI (u : Int)), some (xI l), d] [] σ Q = Q (some (xI (bI (¬ mil S t u = 0 ∧ may S t u (l = 1))))) σ := by
  have b1 := mil_b hS t u
  have b2 := rul_b hS t u
  simp only [e_162_0, e_162_42, e_162_43, e_162_47, e_162_51, e_162_52, brI, cTag, cTgt, cLen, true_and, w32_id (x := 6 * (t : Int)) (by omega) (by omega), w32_id (x := 6 * (t : Int) + (u : Int)) (by omega) (by omega), show (6 * (t : Int) + (u : Int)).toNat = 6 * t + u by omega, hm (6 * t + u) (by omega), hr (6 * t + u) (by omega), ← mil_at (S := S) ht hu, ← rul_at (S := S) ht hu, show (0 ≤ 6 * (t : Int) + (u : Int) ∧ 6 * (t : Int) + (u : Int) < 36) by omega]
  unfold may bI
  generalize mil S t u = m at b1
  generalize rul S t u = r at b2
  rcases hl with rfl | rfl
  · by_cases c1 : m = 0
    · subst c1; simp
    · have c2 : ¬ m ≤ 0 := by omega
      rcases (show r = 0 ∨ r = 1 ∨ r = 2 by omega) with rfl | rfl | rfl <;> simp [c1, c2]
  · by_cases c1 : m = 0
    · subst c1; simp
    · have c2 : ¬ m ≤ 0 := by omega
      rcases (show r = 0 ∨ r = 1 ∨ r = 2 by omega) with rfl | rfl | rfl <;> simp [c1, c2]
theorem x_whyNotWalk (hS : VS B S) (hB : B ≤ 1000000) (hM : RM (vN σ) S) {p t : Nat} (hp : p < 4) (ht : S (8 + p) 0 = 1) (htt : t < 6) (Q : PQ) : X L 163 0 [some (xR 75), some (xI (p : Int)), some (xI (t : Int))] [] σ Q = Q (some (xI (whyW S p t))) σ := by
  obtain ⟨a1, a2, a3, a4, a5, a6, a7, a8, a9, a10, a11, a12⟩ := hS.p hp
  have hP := hM.pp p hp ht
  have ha := VP_at hS hp
  obtain ⟨a, hae⟩ : ∃ a : Nat, S (8 + p) 2 = (a : Int) := ⟨(S (8 + p) 2).toNat, by omega⟩
  have ha6 : a < 6 := by omega
  have s1 : σ 92 p = (a : Int) := hP.pl.trans hae
  have hm : ∀ j, j < 36 → σ 76 j = S 1 j := hM.mi
  have hr : ∀ j, j < 36 → σ 77 j = S 2 j := hM.ru
  simp only [e_163_0, e_163_21, e_163_44, e_163_45, brI, cTag, cTgt, cLen, true_and, Int.toNat_natCast, s1, w32_id (x := 6 * (a : Int)) (by omega) (by omega), w32_id (x := 6 * (a : Int) + (t : Int)) (by omega) (by omega), show (6 * (a : Int) + (t : Int)).toNat = 6 * a + t by omega, hm (6 * a + t) (by omega), ← mil_at (S := S) ha6 htt, show (0 ≤ 6 * (a : Int) + (t : Int) ∧ 6 * (a : Int) + (t : Int) < 36) by omega, show (0 ≤ (p : Int) ∧ (p : Int) < 4) by omega, x_limpsNow hS hB hM hp ht, retI_I, x_mayWalkM hS hm hr ha6 htt (l := bI (lmp (S (8 + p)) (S 0 2))) (by unfold bI; split <;> simp), bI_0, bI_1]
  unfold whyW
  rw [hae]
  by_cases c1 : mil S a t = 0
  · simp [c1]
  · by_cases c2 : may S a t (lmp (S (8 + p)) (S 0 2))
    · simp only [c1, c2, not_true_eq_false, not_false_eq_true, and_self, if_true, if_false, true_and]
    · simp only [c1, c2, not_true_eq_false, not_false_eq_true, and_self, if_true, if_false, true_and]
end Mod
