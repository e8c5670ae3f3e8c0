/-! ROUND: the class's answer -/
section CRound
variable {B : Int} {S σ τ : Mem} {L v : Nat} {T : Ful}
def FrT (σ τ : Mem) : Prop := ∀ o, o ≠ 39 → o ≠ 40 → o ≠ 41 → τ o = σ o
/-- what stands in the Tour -/
def Trd (S : Mem) (l : Int) (h n m s : Nat) (τ : Mem) : Prop := (fF S l h n 7 m s < 1000000 → τ 39 3 = fF S l h n 7 m s ∧ τ 39 2 = (pc m : Int) ∧ ∀ j, j < pc m → τ 41 j = ((go S l h n s m (j + 1)).1 : Int)) ∧ (¬ fF S l h n 7 m s < 1000000 → τ 39 3 = -6 ∧ τ 39 2 = 0)
theorem x_tour (hR : RC 1 S σ) (hS : VS B S) (hB : B ≤ 1000000) (hL : LdC S σ) {p n m l : Nat} (hp : PsV S p n) (hm : m < 64) (hmn : ∀ b, m.testBit b = true → b < n) (hl : l < 2) (hle : bI (lmp (S (8 + p)) (S 0 2)) = (l : Int)) : ∃ τ, (∀ Q : PQ, X L 41 0 [some (xR 39), some (xR 1), some (xR 36), some (xR (1 + 11 + p)), some (xI (m : Int)), none, none] [] σ Q = Q none τ) ∧ FrT σ τ ∧ Trd S l (aH S p) n m (aT S p) τ := by
  obtain ⟨p1, p2, p3, p4, p5, p6⟩ := id hp
  have hn6 := hS.1
  obtain ⟨a1, a2, a3, a4, a5, a6, a7, a8, a9, a10, a11, a12⟩ := hS.p p1
  have e2 := hR.1 2 (by omega)
  have hlq := fun Q => x_limps (L := L) (σ := σ) (gt_p iV1 p1) (S 0 2) hS.2.2.1.1 (by rw [hR.p p1 (by omega)]; omega) (by rw [hR.p p1 (by omega)]; omega) Q
  rw [bI_c (RC_lmp hR p1 (S 0 2)), hle] at hlq
  obtain ⟨ρ, e1, hF, hT⟩ := lpE (n := m + 1) (fun A (ρ : Mem) Q => X L 41 13 [some (xR 39), some (xR 1), some (xR 36), some (xR (1 + 11 + p)), some (xI (m : Int)), some (xI (l : Int)), some (xI (A : Int))] [] ρ Q) (fun A ρ => Fr40 σ ρ ∧ Tb S l (aH S p) n m A ρ) (by
    intro A ρ hA ⟨hF, hT⟩
    have hRr : RC 1 S ρ := RC_eq (fun o ho => hF o (by omega)) hR
    have hLr : LdC S ρ := fun l a b h1 h2 h3 => by rw [hF 37 (by omega)]; exact hL l a b h1 h2 h3
    have r1 := hRr.p p1 (f := 1) (by omega)
    have hsub := sub_n (a := A) (k := m) (by omega)
    have nx : ∀ (ρ : Mem) (Q : PQ), X L 41 51 [some (xR 39), some (xR 1), some (xR 36), some (xR (1 + 11 + p)), some (xI (m : Int)), some (xI (l : Int)), some (xI (A : Int))] [] ρ Q = X L 41 13 [some (xR 39), some (xR 1), some (xR 36), some (xR (1 + 11 + p)), some (xI (m : Int)), some (xI (l : Int)), some (xI ((A + 1 : Nat) : Int))] [] ρ Q := by
      intro ρ Q; rw [e_41_51, w32_id (by omega) (by omega)]; rfl
    by_cases c : and32 (A : Int) (xor32 (m : Int) (-1)) = 0
    · have hs := hsub.mp c
      obtain ⟨ρ1, e1, hF1, hK1, hD1⟩ := x_reckon (L := L) hRr hS hLr hl p2 p4 (show A < 64 by omega) hs hT
      refine ⟨ρ1, fun Q => ?_, hF.tr hF1, fun C a h1 h2 h3 => ?_⟩
      · rw [e_41_13]
        simp only [brI, not_true_eq_false, true_implies, false_implies, implies_true, and_true, cTag, cTgt, cLen, true_and, Int.toNat_natCast, retI_I, retR_R, retV_N, retL_L, ne_eq, Int.reduceEq, not_false_eq_true, gt_p iV1 p1, r1, p6, e1, nx]
        rw [if_neg (by omega), if_neg (by omega), if_neg (fun q => q c)]
      · by_cases e : C = A
        · rw [e]; exact hD1 a h3
        · rw [hK1 _ (by omega)]; exact hT C a (by omega) h2 h3
    · refine ⟨ρ, fun Q => ?_, hF, fun C a h1 h2 h3 => ?_⟩
      · rw [e_41_13]
        simp only [brI, not_true_eq_false, true_implies, false_implies, implies_true, and_true, cTag, cTgt, cLen, true_and, Int.toNat_natCast, retI_I, retR_R, retV_N, retL_L, ne_eq, Int.reduceEq, not_false_eq_true, nx]
        rw [if_neg (by omega), if_neg (by omega), if_pos c]
      · by_cases e : C = A
        · rw [e] at h2; exact absurd (hsub.mpr h2) c
        · exact hT C a (by omega) h2 h3) (a := σ) ⟨fun _ _ => rfl, fun C a h => by omega⟩
  have hRr : RC 1 S ρ := RC_eq (fun o ho => hF o (by omega)) hR
  have hTm := hT m (aT S p) (by omega) (fun _ h => h) p3
  obtain ⟨F, hFe⟩ : ∃ F, fF S l (aH S p) n 7 m (aT S p) = F := ⟨_, rfl⟩
  obtain ⟨ρ1, hρ1⟩ : ∃ ρ1, up ρ 39 2 0 = ρ1 := ⟨_, rfl⟩
  have h140 : ρ1 40 (6 * m + aT S p) = F := by rw [← hρ1, up_rd, if_neg (by omega), hTm, hFe]
  have fw := fun Q => x_fewF (L := L) (σ := ρ1) (C := m) (a := aT S p) hm (by omega) Q
  rw [h140] at fw
  have hRp : ∀ x : Int, RC 1 S (up ρ1 39 3 x) := fun x => RC_eq (fun o ho => by funext i; rw [up_rd, if_neg (by omega), ← hρ1, up_rd, if_neg (by omega)]) hRr
  have hR1 : RC 1 S ρ1 := RC_eq (fun o ho => by funext i; rw [← hρ1, up_rd, if_neg (by omega)]) hRr
  have hFb := fF_b hS l (aH S p) n 7 m (aT S p)
  rw [hFe] at hFb
  have st : ∀ Q : PQ, X L 41 0 [some (xR 39), some (xR 1), some (xR 36), some (xR (1 + 11 + p)), some (xI (m : Int)), none, none] [] σ Q = X L 41 89 [some (xR 39), some (xR 1), some (xR 36), some (xR (1 + 11 + p)), some (xI (m : Int)), some (xI (l : Int)), some (xI F)] [xI (if F < 1000000 then F else -6), xR 39] ρ1 Q := by
    intro Q
    have e57 : X L 41 57 [some (xR 39), some (xR 1), some (xR 36), some (xR (1 + 11 + p)), some (xI (m : Int)), some (xI (l : Int)), some (xI ((m + 1 : Nat) : Int))] [] ρ Q = X L 41 89 [some (xR 39), some (xR 1), some (xR 36), some (xR (1 + 11 + p)), some (xI (m : Int)), some (xI (l : Int)), some (xI F)] [xI (if F < 1000000 then F else -6), xR 39] ρ1 Q := by
      rw [e_41_57]
      simp only [brI, not_true_eq_false, true_implies, false_implies, implies_true, and_true, cTag, cTgt, cLen, true_and, Int.toNat_natCast, retI_I, retR_R, retV_N, retL_L, ne_eq, Int.reduceEq, not_false_eq_true, hρ1, gt_p iV1 p1, hR1.p p1 (f := 2) (by omega), p5, fw, e_41_87]
      by_cases c : F < 1000000
      · rw [if_pos c, if_pos c]
      · rw [if_neg c, if_neg c]
    rw [e_41_0]
    simp only [brI, not_true_eq_false, true_implies, false_implies, implies_true, and_true, cTag, cTgt, cLen, true_and, Int.toNat_natCast, retI_I, retR_R, retV_N, retL_L, ne_eq, Int.reduceEq, not_false_eq_true, gt_p iV1 p1, e2, hlq]
    refine Eq.trans (e1 Q) ?_
    rw [e_41_13]
    simp only [brI]
    by_cases c : 64 ≤ ((m + 1 : Nat) : Int)
    · rw [if_pos c]; exact e57
    · rw [if_neg c, if_pos (by omega)]; exact e57
  have k3 : ∀ x : Int, up ρ1 39 3 x 39 3 = x := fun x => by rw [up_rd, if_pos ⟨rfl, rfl⟩]
  have k2 : ∀ x : Int, up ρ1 39 3 x 39 2 = 0 := fun x => by rw [up_rd, if_neg (by omega), ← hρ1, up_rd, if_pos ⟨rfl, rfl⟩]
  have kF : ∀ x : Int, ∀ o, o ≠ 39 → up ρ1 39 3 x o = ρ o := fun x o ho => by funext i; rw [up_rd, if_neg (by omega), ← hρ1, up_rd, if_neg (by omega)]
  unfold Trd
  rw [hFe]
  by_cases c : F < 1000000
  · rw [if_pos c] at st
    have hLq : LdC S (up ρ1 39 3 F) := fun l a b h1 h2 h3 => by rw [kF F 37 (by omega), hF 37 (by omega)]; exact hL l a b h1 h2 h3
    have hTq : Tb S l (aH S p) n m (m + 1) (up ρ1 39 3 F) := fun C a h1 h2 h3 => by rw [kF F 40 (by omega)]; exact hT C a h1 h2 h3
    obtain ⟨τ, e3, hFr, hc, hD⟩ := x_order (L := L) hS hLq hl p2 hm hmn hTq p3 (k2 F) (by rw [hFe]; exact c)
    refine ⟨τ, fun Q => ?_, fun o o1 o2 o3 => by rw [hFr.1 o o1 o3, kF F o o1, hF o o2], fun _ => ⟨by rw [hFr.2, k3], hc, hD⟩, fun q => absurd c q⟩
    rw [st, e_41_89]
    simp only [brI, not_true_eq_false, true_implies, false_implies, implies_true, and_true, cTag, cTgt, cLen, true_and, Int.toNat_natCast, retI_I, retR_R, retV_N, retL_L, ne_eq, Int.reduceEq, not_false_eq_true, k3, gt_p iV1 p1, (hRp F).p p1 (f := 2) (by omega), p5, e3, e_41_114]
    rw [if_neg (by omega)]
  · rw [if_neg c] at st
    refine ⟨up ρ1 39 3 (-6), fun Q => ?_, fun o o1 o2 o3 => by rw [kF (-6) o o1, hF o o2], fun q => absurd q c, fun _ => ⟨k3 _, k2 _⟩⟩
    rw [st, e_41_89]
    simp only [brI, not_true_eq_false, true_implies, false_implies, implies_true, and_true, cTag, cTgt, cLen, true_and, Int.toNat_natCast, retI_I, retR_R, retV_N, retL_L, ne_eq, Int.reduceEq, not_false_eq_true, k3, if_true, e_41_114]
end CRound
