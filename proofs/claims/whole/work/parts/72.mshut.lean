/-! SHUT, the Model -/
section MShut
variable {B : Int} {S σ τ : Mem} {L v : Nat} {T : Ful}
theorem x_stwM (hI : IM T σ) (hS : VS B (T 0)) {n p w : Nat} (i : Int) (hn : (n : Int) = T 0 0 0) (Q : PQ) : X L 204 45 [some (xR 75), some (xI (p : Int)), some (xI (w : Int)), some (xI i), some (xI 0), some (xI 0), none, none, none, none, none, none, none, none, none, none] [] σ Q = X L 204 83 [some (xR 75), some (xI (p : Int)), some (xI (w : Int)), some (xI i), some (xI (stw (T 0) n : Int)), some (xI (n : Int)), none, none, none, none, none, none, none, none, none, none] [] σ Q := by
  have hn6 := hS.1
  have e0 : σ 75 0 = T 0 0 0 := hI.1.tw
  have h := lpF (n := n) (fun j (x : Nat) Q => X L 204 45 [some (xR 75), some (xI (p : Int)), some (xI (w : Int)), some (xI i), some (xI (x : Int)), some (xI (j : Int)), none, none, none, none, none, none, none, none, none, none] [] σ Q) (fun j => stw (T 0) j) (by
    intro j hj Q
    show X L 204 45 [some (xR 75), some (xI (p : Int)), some (xI (w : Int)), some (xI i), some (xI (stw (T 0) j : Int)), some (xI (j : Int)), none, none, none, none, none, none, none, none, none, none] [] σ Q = X L 204 45 [some (xR 75), some (xI (p : Int)), some (xI (w : Int)), some (xI i), some (xI ((stw (T 0) j ||| (if T 0 4 j = 0 then 0 else 2 ^ j) : Nat) : Int)), some (xI ((j + 1 : Nat) : Int)), none, none, none, none, none, none, none, none, none, none] [] σ Q
    have hb := stw_64 (T 0) (n := j) (by omega)
    have h2 : 2 ^ j ≤ 2 ^ 6 := Nat.pow_le_pow_right (by omega) (by omega)
    have h2 : 2 ^ j ≤ 64 := h2
    have r4 : σ 79 j = T 0 4 j := hI.1.sd j (by omega)
    have h4 := hS.2.2.2.2.2.2.2.1 j (by omega)
    rw [e_204_45]
    simp only [brI, not_true_eq_false, true_implies, false_implies, implies_true, and_true, cTag, cTgt, cLen, true_and, Int.toNat_natCast, retI_I, retR_R, retV_N, retL_L, ne_eq, Int.reduceEq, not_false_eq_true, e0, r4, show (0 ≤ (j : Int) ∧ (j : Int) < 6) by omega, e_204_73, e_204_74, shl32_n (show j < 31 by omega), w32_id (x := (j : Int) + 1) (by omega) (by omega)]
    rw [if_neg (by omega)]
    by_cases c : T 0 4 j = 0
    · rw [if_pos (by omega), if_pos c, show (0 : Int) = ((0 : Nat) : Int) from rfl, or32_n (by omega) (by omega)]; rfl
    · rw [if_neg (by omega), if_neg c, or32_n (by omega) (by omega)]; rfl)
  refine Eq.trans (h Q) ?_
  show X L 204 45 [some (xR 75), some (xI (p : Int)), some (xI (w : Int)), some (xI i), some (xI (stw (T 0) n : Int)), some (xI (n : Int)), none, none, none, none, none, none, none, none, none, none] [] σ Q = _
  rw [e_204_45]
  simp only [brI, not_true_eq_false, true_implies, false_implies, implies_true, and_true, cTag, cTgt, cLen, true_and, Int.toNat_natCast, retI_I, retR_R, retV_N, retL_L, ne_eq, Int.reduceEq, not_false_eq_true, e0]
  rw [if_pos (by omega)]
theorem x_wsmM (hI : IM T σ) (hS : VS B (T 0)) (hB : B ≤ 1000000) (hL : LdF (T 0) σ) {p n w k : Nat} (i : Int) (hp : PsV (T 0) p n) (h1 : T 0 (8 + p) 0 = 1) (hw : w ≤ 10) (hk : k < 64) : ∃ τ, (∀ Q : PQ, X L 204 96 [some (xR 75), some (xI (p : Int)), some (xI (w : Int)), some (xI i), some (xI (k : Int)), some (xI (pc k : Int)), some (xL 0), none, some (xI 0), none, none, none, none, none, none, none] [] σ Q = X L 204 169 [some (xR 75), some (xI (p : Int)), some (xI (w : Int)), some (xI i), some (xI (k : Int)), some (xI (pc k : Int)), some (xL (wsm (T 0) p k w n 64 : Int)), none, some (xI 64), none, none, none, none, none, none, none] [] τ Q) ∧ FrJ σ τ := by
  have hn6 := hS.1
  have hpn := hp.2.1
  obtain ⟨τ, e1, hF⟩ := lpE (n := 64) (fun o (ρ : Mem) Q => X L 204 96 [some (xR 75), some (xI (p : Int)), some (xI (w : Int)), some (xI i), some (xI (k : Int)), some (xI (pc k : Int)), some (xL (wsm (T 0) p k w n o : Int)), none, some (xI (o : Int)), none, none, none, none, none, none, none] [] ρ Q) (fun o ρ => FrJ σ ρ) (by
    intro o ρ ho hF
    have hb := wsm_b (T 0) p k n hw o
    have hb6 := wp6 k o hw
    have nx : ∀ (ρ : Mem) (a6 : Int) (Q : PQ), X L 204 163 [some (xR 75), some (xI (p : Int)), some (xI (w : Int)), some (xI i), some (xI (k : Int)), some (xI (pc k : Int)), some (xL a6), none, some (xI (o : Int)), none, none, none, none, none, none, none] [] ρ Q = X L 204 96 [some (xR 75), some (xI (p : Int)), some (xI (w : Int)), some (xI i), some (xI (k : Int)), some (xI (pc k : Int)), some (xL a6), none, some (xI ((o + 1 : Nat) : Int)), none, none, none, none, none, none, none] [] ρ Q := by
      intro ρ a6 Q; rw [e_204_163, w32_id (by omega) (by omega)]; rfl
    by_cases c1 : and32 (o : Int) (xor32 (k : Int) (-1)) = 0
    · obtain ⟨ρ1, e1, hF1, hH1⟩ := x_layShod (L := L) (IM_Q hI hF.m) hS hB (LdF_J hL hF) hp h1 ho
      have g0 : ρ1 75 34 = shd (T 0) p o n 0 := hH1 0 (by omega)
      have hok := shd_ok hS (p := p) (o := o) (n := n) (by omega)
      refine ⟨ρ1, fun Q => ?_, hF.tr hF1⟩
      by_cases c2 : shd (T 0) p o n 0 = -6
      · have u : wsm (T 0) p k w n (o + 1) = wsm (T 0) p k w n o := by
          simp only [wsm]; rw [if_neg (fun q => q.2 c2)]; rfl
        rw [e_204_96]
        simp only [brI, not_true_eq_false, true_implies, false_implies, implies_true, and_true, cTag, cTgt, cLen, true_and, Int.toNat_natCast, retI_I, retR_R, retV_N, retL_L, ne_eq, Int.reduceEq, not_false_eq_true, e1, g0, e_204_160, nx, Int.add_zero, w64_i (x := (wsm (T 0) p k w n o : Int)) (by omega) (by omega), u]
        rw [if_neg (by omega), if_neg (fun q => q c1), if_neg (by omega)]
      · have u : wsm (T 0) p k w n (o + 1) = wsm (T 0) p k w n o + wp k o w 6 := by
          simp only [wsm]; rw [if_pos ⟨c1, c2⟩]
        have hsub := (sub_n (a := o) (k := k) (by omega)).mp c1
        obtain ⟨w1, w2⟩ := wp_e (w := w) hsub 6
        have pk := pc6 k hk
        have po := pc6 o ho
        rw [pk.1, po.1] at w1 w2
        have c3 : 0 ≤ shd (T 0) p o n 0 := hok.resolve_left c2
        rw [e_204_96]
        simp only [brI, not_true_eq_false, true_implies, false_implies, implies_true, and_true, cTag, cTgt, cLen, true_and, Int.toNat_natCast, retI_I, retR_R, retV_N, retL_L, ne_eq, Int.reduceEq, not_false_eq_true, e1, g0]
        rw [if_neg (by omega), if_neg (fun q => q c1), if_pos c3, e_204_133]
        simp only [brI, not_true_eq_false, true_implies, false_implies, implies_true, and_true, cTag, cTgt, cLen, true_and, Int.toNat_natCast, retI_I, retR_R, retV_N, retL_L, ne_eq, Int.reduceEq, not_false_eq_true, x_bits L (show o < 2147483648 by omega), w32_id (x := 10 - (w : Int)) (by omega) (by omega), w32_id (x := (pc k : Int) - (pc o : Int)) (by omega) (by omega)]
        rw [show (10 : Int) - (w : Int) = ((10 - w : Nat) : Int) by omega, show (pc k : Int) - (pc o : Int) = ((pc k - pc o : Nat) : Int) by omega]
        simp only [x_power (show 10 - w ≤ 10 by omega) po.2, brI, not_true_eq_false, true_implies, false_implies, implies_true, and_true, cTag, cTgt, cLen, true_and, Int.toNat_natCast, retI_I, retR_R, retV_N, retL_L, ne_eq, Int.reduceEq, not_false_eq_true, x_bits L (show o < 2147483648 by omega)]
        simp only [x_power hw (show pc k - pc o ≤ 6 by omega), brI, not_true_eq_false, true_implies, false_implies, implies_true, and_true, cTag, cTgt, cLen, true_and, Int.toNat_natCast, retI_I, retR_R, retV_N, retL_L, ne_eq, Int.reduceEq, not_false_eq_true, ← Int.natCast_mul, ← w2, e_204_160, nx, w64_i (x := (wp k o w 6 : Int)) (by omega) (by omega), ← Int.natCast_add, ← u]
        rw [w64_i (Int.natCast_nonneg _) (by omega)]
    · have u : wsm (T 0) p k w n (o + 1) = wsm (T 0) p k w n o := by
        simp only [wsm]; rw [if_neg (fun q => c1 q.1)]; rfl
      refine ⟨ρ, fun Q => ?_, hF⟩
      rw [u, e_204_96]
      simp only [brI, not_true_eq_false, true_implies, false_implies, implies_true, and_true, cTag, cTgt, cLen, true_and, Int.toNat_natCast, retI_I, retR_R, retV_N, retL_L, ne_eq, Int.reduceEq, not_false_eq_true, nx]
      rw [if_neg (by omega), if_pos c1]) (a := σ) FrJ.rf
  refine ⟨τ, fun Q => ?_, hF⟩
  refine Eq.trans (e1 Q) ?_
  show X L 204 96 [some (xR 75), some (xI (p : Int)), some (xI (w : Int)), some (xI i), some (xI (k : Int)), some (xI (pc k : Int)), some (xL (wsm (T 0) p k w n 64 : Int)), none, some (xI 64), none, none, none, none, none, none, none] [] τ Q = _
  rw [e_204_96]
  simp only [brI, Int.le_refl, if_true]
theorem m_shut (hI : IM T σ) (hV : IV B T) (hB : B ≤ 1000000) (p w i : Int) : MOL σ (X L 204 0 [some (xR 75), some (xI p), some (xI w), some (xI i), none, none, none, none, none, none, none, none, none, none, none, none] [] σ) (a_shut T p w i) T := by
  unfold a_shut
  by_cases c : thr (T 0) p = 0
  · rw [if_neg (fun q => q c)]
    refine ⟨σ, fun Q => ?_, hI, fun _ _ => rfl⟩
    simp only [e_204_0, brI, not_true_eq_false, true_implies, false_implies, implies_true, and_true, cTag, cTgt, cLen, true_and, Int.toNat_natCast, retI_I, retR_R, retV_N, retL_L, ne_eq, Int.reduceEq, not_false_eq_true, x_isThereM hV.1 hI.th, c, if_true, if_false]
  · rw [if_pos c]
    obtain ⟨q, hq, rfl, h1⟩ := thr_in (B := B) c
    have h1 := h1 hV.1
    by_cases ci : (0 ≤ w ∧ w ≤ 10) ∧ (0 ≤ i ∧ i ≤ 1)
    · rw [if_pos ci]
      obtain ⟨cw, ci⟩ := ci
      obtain ⟨w, rfl⟩ : ∃ a : Nat, w = (a : Int) := ⟨w.toNat, by omega⟩
      simp only [Int.toNat_natCast]
      obtain ⟨n, hn, hn2, hn6⟩ := tn hV
      have hnn : (T 0 0 0).toNat = n := by omega
      rw [hnn]
      obtain ⟨τ, e, hF, hQ, hI1, hL⟩ := m_lay (L := L) hI hV
      have hk := stw_64 (T 0) hn6
      have hlb := shL_b (T 0) hn6
      have hpc := pc6 _ hk
      obtain ⟨ρ, e1, hE⟩ := x_wsmM (L := L) hI1 hV.1 hB hL i (psv hV.1 hq hn) h1 (show w ≤ 10 by omega) hk
      have hQ2 : FrM σ ρ := hQ.tr hE.m
      refine ⟨ρ, fun Q => ?_, IM_Q hI hQ2, fun o ho => hQ2.1 o (by omega)⟩
      have hs := x_stwM (L := L) (w := w) (p := q) hI1 hV.1 i hn
      have hUb := wsm_b (T 0) q (stw (T 0) n) n (show w ≤ 10 by omega) 64
      have hU : shU (T 0) q w n = wsm (T 0) q (stw (T 0) n) w n 64 := rfl
      have hl : shL (T 0) n = 10 ^ pc (stw (T 0) n) := rfl
      have hG : shG (T 0) q w n = Nat.gcd (shU (T 0) q w n) (shL (T 0) n) := rfl
      rw [hG]
      rw [← hU] at e1 hUb
      have pw10 := fun Q => x_power (L := L) (σ := ρ) (a := 10) (n := pc (stw (T 0) n)) (by omega) hpc.2 Q
      rw [← hl] at pw10
      have pw10 : ∀ Q : PQ, X L 203 0 [some (xL 10), none, some (xI (pc (stw (T 0) n) : Int)), none, none, none] [] ρ Q = Q (some (xL (shL (T 0) n : Int))) ρ := pw10
      generalize shU (T 0) q w n = U at *
      generalize shL (T 0) n = l at *
      generalize stw (T 0) n = k at *
      obtain ⟨c14, c15, eg⟩ := x_gdM (L := L) (σ := ρ) (q : Int) (w : Int) i (k : Int) (pc k : Int) (U : Int) (l : Int) l U none none
      have hg1 : 1 ≤ Nat.gcd U l := Nat.gcd_pos_of_pos_right U (by omega)
      have q1 : U / Nat.gcd U l ≤ U := Nat.div_le_self _ _
      have q2 : l / Nat.gcd U l ≤ l := Nat.div_le_self _ _
      have g64 : ∀ a b : Nat, a ≤ b → b ≤ 64000000 → w64 (a : Int) = (a : Int) := fun a b h1 h2 => w64_i (Int.natCast_nonneg _) (by omega)
      have v1 := g64 _ _ q1 (by omega)
      have v2 := g64 _ _ q2 (by omega)
      simp only [e_204_0, e_204_12, e_204_35, brI, not_true_eq_false, true_implies, false_implies, implies_true, and_true, cTag, cTgt, cLen, true_and, Int.toNat_natCast, retI_I, retR_R, retV_N, retL_L, ne_eq, Int.reduceEq, not_false_eq_true, x_isThereM hV.1 hI.th, x_in, bI_0, c, cw, ci, e, if_true, if_false, and_self, hs, e_204_83, x_bits L (show k < 2147483648 by omega), e1, e_204_169, pw10, eg, e_204_212, e_204_224, e_204_229, ← Int.ofNat_tdiv, v1, v2, show ¬ ((Nat.gcd U l : Int) = 0) by omega]
      by_cases c0 : i = 0
      · rw [if_neg (fun q => q c0), if_pos c0]
      · rw [if_pos c0, if_neg c0]
    · rw [if_neg ci]
      refine ⟨σ, fun Q => ?_, hI, fun _ _ => rfl⟩
      simp only [e_204_0, e_204_12, brI, not_true_eq_false, true_implies, false_implies, implies_true, and_true, cTag, cTgt, cLen, true_and, Int.toNat_natCast, retI_I, retR_R, retV_N, retL_L, ne_eq, Int.reduceEq, not_false_eq_true, x_isThereM hV.1 hI.th, x_in, bI_0, c, if_true, if_false, e_204_31]
      by_cases cw : 0 ≤ w ∧ w ≤ 10
      · have ci2 : ¬ (0 ≤ i ∧ i ≤ 1) := fun q => ci ⟨cw, q⟩
        simp only [cw, ci2, brI, not_true_eq_false, true_implies, false_implies, implies_true, and_true, cTag, cTgt, cLen, true_and, Int.toNat_natCast, retI_I, retR_R, retV_N, retL_L, ne_eq, Int.reduceEq, not_false_eq_true, if_true, if_false, and_self]
      · simp only [cw, brI, not_true_eq_false, true_implies, false_implies, implies_true, and_true, cTag, cTgt, cLen, true_and, Int.toNat_natCast, retI_I, retR_R, retV_N, retL_L, ne_eq, Int.reduceEq, not_false_eq_true, if_true, if_false]
end MShut
