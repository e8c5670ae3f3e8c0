/-! a step of a day: why not, and what it changes -/
def Fr (v : Nat) (σ τ : Mem) : Prop := ∀ o, o < v ∨ v + 15 ≤ o → τ o = σ o
theorem Fr.rfl' {v : Nat} {σ : Mem} : Fr v σ σ := fun _ _ => rfl
theorem Fr.tr {v : Nat} {a b c : Mem} (h1 : Fr v a b) (h2 : Fr v b c) : Fr v a c := fun o h => (h2 o h).trans (h1 o h)
theorem Fr_up {v : Nat} {σ : Mem} {a i : Nat} {x : Int} (h : v ≤ a ∧ a < v + 15) : Fr v σ (up σ a i x) := by
  intro o ho
  funext j
  simp only [up_rd]
  rw [if_neg (by omega)]
section Steps
variable {v : Nat} {B : Int} {S σ : Mem} {L : Nat}
theorem VS.mono {B' : Int} (h : VS B S) (hb : B ≤ B') : VS B' S := by
  obtain ⟨h1, h2, h3, h4, h5, h6, h7, h8, h9, h10, h11, h12, h13⟩ := h
  refine ⟨h1, h2, h3, h4, h5, h6, ?_, h8, h9, h10, h11, h12, ?_⟩
  · intro a b f ha hb2 hf
    have := h7 a b f ha hb2 hf
    exact ⟨⟨this.1.1, by omega⟩, this.2⟩
  · intro p hp
    obtain ⟨a1, a2, a3, a4, a5, a6, a7, a8, a9, a10, a11, a12⟩ := h13 p hp
    exact ⟨a1, a2, a3, a4, a5, a6, a7, a8, ⟨a9.1, by omega⟩, ⟨a10.1, by omega⟩, ⟨a11.1, by omega⟩, a12⟩
theorem x_hasFor (hv : IsV v) (hR : RC v S σ) {p : Nat} (hp : p < 4) (hS : VS B S) (t s : Int) (ht : 0 ≤ t ∧ t < 6) (d : Option PV) (Q : PQ) : X L 69 0 [some (xR v), some (xI t), some (xI s), some (xR (v + 11 + p)), d] [] σ Q = Q (some (xI (bI (g1 S 4 6 t = s ∧ 0 < stk S t (szo (S (8 + p)) s))))) σ := by
  have hz : szo (σ (v + 11 + p)) s = szo (S (8 + p)) s := by
    unfold szo; rw [hR.p hp (by omega), hR.p hp (by omega)]
  have hb : 0 ≤ szo (S (8 + p)) s ∧ szo (S (8 + p)) s ≤ 4 := by
    obtain ⟨_, _, _, a4, a5, _⟩ := hS.p hp
    unfold szo; split
    · exact a4
    · exact a5
  have e1 : vA L σ (v + 4) t = g1 S 4 6 t := by
    unfold vA g1; rw [gl_4 hv, if_pos (by omega), if_pos (by omega), hR.2.2.2.2.1 t.toNat (by omega)]
  have e2 : vA L σ (v + 6) (5 * t + szo (S (8 + p)) s) = stk S t (szo (S (8 + p)) s) := by
    unfold vA stk
    rw [gl_6 hv, if_pos (by omega), if_pos (by omega), show (5 * t + szo (S (8 + p)) s).toNat = 5 * t.toNat + (szo (S (8 + p)) s).toNat by omega, hR.2.2.2.2.2.2.1 _ (by omega)]
  simp only [e_69_0, e_69_39, e_69_40, brI, gt_p hv hp, gv_t hv, gv_7 hv, gv_9 hv, true_and, x_sizeOn (gt_p hv hp), retI_I, hz, x_valueAt L (v + 4) _ _ _ (gt_4 hv), x_valueAt L (v + 6) _ _ _ (gt_6 hv), w32_id (x := 5 * t) (by omega) (by omega), w32_id (x := 5 * t + szo (S (8 + p)) s) (by omega) (by omega), e1, e2]
  by_cases c1 : g1 S 4 6 t = s <;> by_cases c2 : stk S t (szo (S (8 + p)) s) ≤ 0
  · rw [if_neg (by simpa using c1), if_pos c2, bI_f (by omega)]; simp
  · rw [if_neg (by simpa using c1), if_neg c2, bI_t ⟨c1, by omega⟩]; simp
  · rw [if_pos c1, bI_f (by simp [c1])]; simp
  · rw [if_pos c1, bI_f (by simp [c1])]; simp
theorem VP_at (hS : VS B S) {p : Nat} (hp : p < 4) : 0 ≤ S (8 + p) 2 ∧ S (8 + p) 2 < 6 := by
  have := (hS.p hp).2.2.1
  have := hS.1
  omega
theorem x_whyNoWalk (hv : IsV v) (hR : RC v S σ) (hS : VS B S) (hB : B ≤ 1000000) {p : Nat} (hp : p < 4) (t : Int) (d : Option PV) (Q : PQ) : X L 73 0 [some (xR v), some (xR (v + 11 + p)), some (xI t), d] [] σ Q = Q (some (xI (whyW S p t))) σ := by
  obtain ⟨a1, a2, a3, a4, a5, a6, a7, a8, a9, a10, a11, a12⟩ := hS.p hp
  have hk := hS.2.2.1
  simp only [e_73_0, gt_p hv hp, gv_t hv, true_and, x_roadNumber, retI_I, x_milesOf hv, brI, hR.p hp (f := 2) (by omega), rc_mil hv hR hS, whyW]
  by_cases c : mil S (S (8 + p) 2) t = 0
  · simp [c]
  · have hne : ¬ S (8 + p) 2 = t := by
      intro e; rw [e] at c; exact c (mil_d hS t)
    rw [if_pos c, if_neg c]
    simp only [e_73_19, e_73_39, e_73_40, gt_p hv hp, gv_t hv, true_and, hR.1 2 (by omega)]
    rw [x_limps (gt_p hv hp) _ hk.1 (by rw [hR.p hp (by omega)]; omega) (by rw [hR.p hp (by omega)]; omega)]
    simp only [retI_I, x_mayWalk hv, brI, bI_0, rc_rul hv hR hS _ _ hne]
    by_cases hl : lmp (S (8 + p)) (S 0 2)
    · have hl' := (RC_lmp hR hp (S 0 2)).mpr hl
      by_cases c3 : rul S (S (8 + p) 2) t = 0 ∨ rul S (S (8 + p) 2) t = 1 <;> simp [hl, hl', c3, may]
    · have hl' : ¬ lmp (σ (v + 11 + p)) (S 0 2) := fun q => hl ((RC_lmp hR hp (S 0 2)).mp q)
      by_cases c3 : rul S (S (8 + p) 2) t = 0 ∨ rul S (S (8 + p) 2) t = 2 <;> simp [hl, hl', c3, may]
theorem x_whyNoShoe (hv : IsV v) (hR : RC v S σ) (hS : VS B S) {p : Nat} (hp : p < 4) (d : Option PV) (Q : PQ) : X L 74 0 [some (xR v), some (xR (v + 11 + p)), d] [] σ Q = Q (some (xI (whyB S p))) σ := by
  obtain ⟨a1, a2, a3, a4, a5, a6, a7, a8, a9, a10, a11, a12⟩ := hS.p hp
  have ha := VP_at hS hp
  have h6 : σ (v + 11 + p) 6 = 0 ∨ σ (v + 11 + p) 6 = 1 := by rw [hR.p hp (by omega)]; exact a7
  have h7 : σ (v + 11 + p) 7 = 0 ∨ σ (v + 11 + p) 7 = 1 := by rw [hR.p hp (by omega)]; exact a8
  have hw : ∀ s, wrs (σ (v + 11 + p)) s = wrs (S (8 + p)) s := by
    intro s; unfold wrs; rw [hR.p hp (by omega), hR.p hp (by omega)]
  simp only [e_74_0, e_74_26, e_74_28, e_74_38, e_74_58, e_74_59, gt_p hv hp, gv_t hv, true_and, retI_I, brI, x_sideAt hv hR, hR.p hp (f := 2) (by omega), hR.p hp (f := 5) (by omega), x_hasFor hv hR hp hS _ _ ha, x_wears (gt_p hv hp) _ h6 h7, hw, x_priceAt hv hR, bI_0, whyB]
  by_cases c1 : g1 S 4 6 (S (8 + p) 2) = 0
  · simp [c1]
  · by_cases c2 : stk S (S (8 + p) 2) (szo (S (8 + p)) (g1 S 4 6 (S (8 + p) 2))) ≤ 0
    · simp [c1, c2]
    · by_cases c3 : wrs (S (8 + p)) (g1 S 4 6 (S (8 + p) 2)) = 0
      · by_cases c4 : S (8 + p) 5 < g1 S 5 6 (S (8 + p) 2)
        · simp [c1, c2, c3, c4, show 0 < stk S (S (8 + p) 2) (szo (S (8 + p)) (g1 S 4 6 (S (8 + p) 2))) by omega, show ¬ g1 S 5 6 (S (8 + p) 2) ≤ S (8 + p) 5 by omega]
        · simp [c1, c2, c3, c4, show 0 < stk S (S (8 + p) 2) (szo (S (8 + p)) (g1 S 4 6 (S (8 + p) 2))) by omega, show g1 S 5 6 (S (8 + p) 2) ≤ S (8 + p) 5 by omega]
      · simp [c1, c2, c3, show 0 < stk S (S (8 + p) 2) (szo (S (8 + p)) (g1 S 4 6 (S (8 + p) 2))) by omega]
theorem x_whyNot (hv : IsV v) (hR : RC v S σ) (hS : VS B S) (hB : B ≤ 1000000) {p : Nat} (hp : p < 4) (d : Int) (d3 : Option PV) (Q : PQ) : X L 72 0 [some (xR v), some (xI (p : Int)), some (xI d), d3] [] σ Q = Q (some (xI (why S p d))) σ := by
  simp only [e_72_0, e_72_15, e_72_23, e_72_39, e_72_44, gv_t hv, gt_p hv hp, true_and, x_personAt hv hp, retR_R, brI, hR.p hp (f := 0) (by omega), x_isWalk, retI_I, bI_0, x_whyNoWalk hv hR hS hB hp, x_whyNoShoe hv hR hS hp, why]
  by_cases c1 : S (8 + p) 0 = 0
  · simp [c1]
  · by_cases c2 : d = 7
    · simp [c1, c2]
    · by_cases c3 : d < 6 <;> simp [c1, c2, c3]
end Steps
