/-! from the law's entry to its loop -/
def sg0 (xs : Nat → Int32) : Mem := fun o j => if o = 104 then (xs j).toInt else (csM.getD o c00).2.1.getD j 0
set_option maxRecDepth 100000 in
theorem f_tag : ∀ o, o < 104 → (csM.getD o c00).1 = tag o := by decide +kernel
set_option maxRecDepth 100000 in
theorem f_len : ∀ o, o < 104 → tag o < 2 → (csM.getD o c00).2.1.length = len0 o := by decide +kernel
set_option maxRecDepth 100000 in
theorem f_len2 : ∀ o, o < 104 → (tag o = 2 ∨ tag o = 3) → (csM.getD o c00).2.2.length = len0 o ∧ ∀ j, j < len0 o → (csM.getD o c00).2.2.getD j none = some (tgt o j) := by decide +kernel
set_option maxRecDepth 100000 in
theorem f_ref : ∀ o, o < 104 → 10 ≤ tag o → tag o < 22 ∧ ∀ k, k < nfld (tag o - 10) → fknd (tag o - 10) k = 3 → (csM.getD o c00).2.2.getD k none = some (tgt o k) := by decide +kernel
set_option maxRecDepth 100000 in
theorem f_rng : ∀ o, o < 104 → (csM.getD o c00).2.1.all (fun x => decide (-100 ≤ x ∧ x ≤ 100)) = true := by decide +kernel
theorem f_kinds : ∀ o, o < 104 → tag o < 4 ∨ 10 ≤ tag o := by decide +kernel
theorem arrV_congr {c : ClassId} {n : Nat} {f f' : Nat → Value} (h : ∀ j, j < n → f j = f' j) : arrV c n f = arrV c n f' := by
  unfold arrV
  congr 2
  funext j
  exact h j.val j.isLt
theorem wsO_of {g : GC} {H : Heap} {xs : Nat → Int32} (h : va_P g.1 vwCl (wsC g csM) H) : va_P g.1 vwCl (wsO g (sg0 xs)) H := by
  intro o q hq
  have ho : o < 104 := by
    have := (List.getElem?_eq_some_iff.mp hq).1
    simpa [wsO] using this
  rw [wsO_at g _ ho] at hq
  cases hq
  have hlen : csM.length = 104 := csM_ok.2
  obtain ⟨c, hc⟩ : ∃ c, csM[o]? = some c := ⟨_, List.getElem?_eq_getElem (by omega)⟩
  have hcd : csM.getD o c00 = c := by rw [List.getD_eq_getElem?_getD, hc]; rfl
  have h1 := h o _ (wsC_at g csM hc)
  have ht := f_tag o ho
  rw [hcd] at ht
  have hs : ∀ j, sg0 xs o j = c.2.1.getD j 0 := by
    intro j
    unfold sg0
    rw [if_neg (by omega), hcd]
  rcases f_kinds o ho with hk | hk
  · match e : tag o, hk with
    | 0, _ =>
      have hl := f_len o ho (by omega)
      rw [hcd] at hl
      rw [cell_0 e]
      have e1 : encC g c = .inl (g.2.1.1, c.2.1.length, .inl (fun j => i32 (c.2.1.getD j 0))) := by unfold encC; rw [ht, e]; rfl
      rw [e1] at h1
      show H[g.2.2 o]? = some (vp_cell _ _)
      have h1 : H[g.2.2 o]? = some (vp_cell _ _) := h1
      rw [h1, vp_cell_i, vp_cell_i, hl]
      exact congrArg some (arrV_congr (fun j _ => by rw [hs]))
    | 1, _ =>
      have hl := f_len o ho (by omega)
      rw [hcd] at hl
      rw [cell_1 e]
      have e1 : encC g c = .inl (g.2.1.2.1, c.2.1.length, .inl (fun j => i32 (c.2.1.getD j 0))) := by unfold encC; rw [ht, e]; rfl
      rw [e1] at h1
      show H[g.2.2 o]? = some (vp_cell _ _)
      have h1 : H[g.2.2 o]? = some (vp_cell _ _) := h1
      rw [h1, vp_cell_i, vp_cell_i, hl]
      exact congrArg some (arrV_congr (fun j _ => by rw [hs]))
    | 2, _ =>
      obtain ⟨hl, hr⟩ := f_len2 o ho (Or.inl e)
      rw [hcd] at hl hr
      rw [cell_2 e]
      rw [encC_2 (by rw [ht, e])] at h1
      show H[g.2.2 o]? = some (vp_cell _ _)
      have h1 : H[g.2.2 o]? = some (vp_cell _ _) := h1
      rw [h1, vp_cell_q, vp_cell_q, hl]
      exact congrArg some (arrV_congr (fun j hj => by rw [hr j hj]; rfl))
    | 3, _ =>
      obtain ⟨hl, hr⟩ := f_len2 o ho (Or.inr e)
      rw [hcd] at hl hr
      rw [cell_3 e]
      rw [encC_3 (by rw [ht, e])] at h1
      show H[g.2.2 o]? = some (vp_cell _ _)
      have h1 : H[g.2.2 o]? = some (vp_cell _ _) := h1
      rw [h1, vp_cell_q, vp_cell_q, hl]
      exact congrArg some (arrV_congr (fun j hj => by rw [hr j hj]; rfl))
  · obtain ⟨-, hr⟩ := f_ref o ho hk
    rw [hcd] at hr
    have e : tag o = 10 + (tag o - 10) := by omega
    rw [cell_c e]
    rw [encC_c (ht.trans e)] at h1
    have hl : (List.range (nfld (tag o - 10))).map (fvalC g c (tag o - 10)) = (List.range (nfld (tag o - 10))).map (fval g (sg0 xs) o (tag o - 10)) := by
      apply List.map_congr_left
      intro k hk
      have hkk := List.mem_range.mp hk
      unfold fvalC fval
      rw [hs]
      by_cases h3 : fknd (tag o - 10) k = 3
      · rw [hr k hkk h3, h3]; rfl
      · generalize fknd (tag o - 10) k = q at h3 ⊢
        match q, h3 with
        | 0, _ => rfl
        | 1, _ => rfl
        | 2, _ => rfl
        | 3, h => exact absurd rfl h
        | _ + 4, _ => rfl
    rw [hl] at h1
    exact h1
theorem rng0 (xs : Nat → Int32) : rngM (sg0 xs) := by
  have key : ∀ o j, in32 (sg0 xs o j) := by
    intro o j
    unfold sg0
    split
    · exact in32_toInt _
    · rcases Nat.lt_or_ge o 104 with ho | ho
      · have h := List.all_eq_true.mp (f_rng o ho)
        rw [List.getD_eq_getElem?_getD]
        cases hj : (csM.getD o c00).2.1[j]? with
        | none => exact in32_0
        | some x =>
          have := of_decide_eq_true (h x (List.mem_of_getElem? hj))
          exact ⟨by show _ ≤ x; omega, by show x < _; omega⟩
      · rw [show csM.getD o c00 = c00 by rw [List.getD_eq_getElem?_getD, List.getElem?_eq_none (by rw [csM_ok.2]; exact ho)]; rfl]
        exact in32_0
  exact fun o j => ⟨fun _ => in64_of32 (key o j), fun _ => key o j⟩
theorem dl_0 : decode code 0 = .ok (.new 7, 3) := by decide +kernel
theorem dl_3 : decode code 3 = .ok (.dup, 1) := by decide +kernel
theorem dl_4 : decode code 4 = .ok (.invokespecial 9, 3) := by decide +kernel
theorem dl_7 : decode code 7 = .ok (.astore_n 1, 1) := by decide +kernel
theorem dl_8 : decode code 8 = .ok (.new 10, 3) := by decide +kernel
theorem dl_11 : decode code 11 = .ok (.dup, 1) := by decide +kernel
theorem dl_12 : decode code 12 = .ok (.invokespecial 12, 3) := by decide +kernel
theorem dl_15 : decode code 15 = .ok (.astore_n 2, 1) := by decide +kernel
theorem dl_16 : decode code 16 = .ok (.iconst 0, 1) := by decide +kernel
theorem dl_17 : decode code 17 = .ok (.istore_n 3, 1) := by decide +kernel
theorem st_w : [inG (.classLink RL 7 (cn 10)), inG (.instantiable (cn 10) (nfld 10)), inG (.initialized (cn 10)), inG (.methodLink RL 9 (cY 10)), inG (.instanceMethod (cY 10)), inG (.classLink RL 10 (cn 11)), inG (.instantiable (cn 11) (nfld 11)), inG (.initialized (cn 11)), inG (.methodLink RL 12 (cY 11)), inG (.instanceMethod (cY 11)), inG (.arrayClass .int), inG (.arrayClass .boolean)].all (fun b => b) = true := by decide +kernel
theorem st_i : ∀ k, k < 12 → inG (.instantiable (cn k) (nfld k)) = true := by decide +kernel
theorem st_ao : Cond.arrayOver (.object "OddShoes$Person") ∈ lw_tbl ∧ Cond.arrayOver (.object "OddShoes$Valley") ∈ lw_tbl := by decide +kernel
set_option maxRecDepth 100000 in
theorem st_tot : totS csX = 1372 ∧ totS csM = 2668 ∧ totS [(20, List.replicate 11 0, List.replicate 11 none)] = 11 := by decide +kernel
theorem st_room : mFr 213 ≤ 9 ∧ mLo 213 ≤ 364 ∧ cFr 10 + 1 ≤ 9 ∧ 8 + (cML 10 + 11) + cLo 10 ≤ 364 ∧ cFr 11 + 1 ≤ 9 ∧ 8 + (cML 11 + 11) + cLo 11 ≤ 364 := by decide +kernel
section Start
variable {p : Program} {l : Launch} {e : Env} {R : Room} {s : State} {m : MethodId} {args : Array Value} {below : List Frame} {meth : Method} {c : Code} {cells slots : Nat} {Z : State → Prop} {g : GC} {base : Nat}
theorem st_new {H : Heap} {locs : List Loc} {cs : CWd} {pc v ci : Nat} {mls : Array Slot} {rest : List Value} {cc : ByteArray} {own : String} (hx : p.tables.exec = Jvm.exec) (hb : c.code = cc) (hown : s.vm.findClass own = some m.cls) (hG : ∀ w ∈ tblG, w.before args s = true) (hw : WC g base cs s H locs) (hci : ci < 12) (hd : decode cc pc = .ok (.new v, 3)) (h1 : inG (.classLink own v (cn ci)) = true) (h2 : inG (.instantiable (cn ci) (nfld ci)) = true) (h3 : inG (.initialized (cn ci)) = true) (hl : cs.length < 104) (hc : cells + 1 ≤ R.cells) (hs : slots + nfld ci ≤ R.slots)
    (kk : ∀ H' : Heap, WC g base (cs ++ [(10 + ci, List.replicate (nfld ci) 0, List.replicate (nfld ci) none)]) s H' locs → W p l e R s m args below meth c H' locs (cells + 1) (slots + nfld ci) Z (F0 m (pc + 3) mls (.ref (base + cs.length) :: rest))) : W p l e R s m args below meth c H locs cells slots Z (F0 m pc mls rest) := by
  have hKn := hw.1.1 ci _ (cl_at hci)
  refine W.newcK hx hb hown (hG _ (inG_m h1)) (hG _ (inG_m h2)) (hG _ (inG_m h3)) rfl hd hc hs hKn.2.1 hw.2.2.2.2.1 fun H1 kC hkC e1 z1 o1 => ?_
  refine kk H1 (WC_push hw hl z1 o1 ?_)
  rw [encC_c rfl]
  refine ⟨_, cl_at hci, (u_born (fTy ci) hG (ly_g hci) hKn hkC e1 (fTy_ok hci)).to (fun j hj => ?_)⟩
  rw [dflt_ok ci hci j hj]
  show _ = vp_V ((List.range (nfld ci)).map (fvalC g (10 + ci, List.replicate (nfld ci) 0, List.replicate (nfld ci) none) ci)) j
  have hv : vp_V ((List.range (nfld ci)).map (fvalC g (10 + ci, List.replicate (nfld ci) 0, List.replicate (nfld ci) none) ci)) j = fvalC g (10 + ci, List.replicate (nfld ci) 0, List.replicate (nfld ci) none) ci j := by
    unfold vp_V
    rw [List.getD_eq_getElem?_getD, List.getElem?_map, List.getElem?_range hj]
    rfl
  rw [hv]
  unfold fvalC
  show _ = (match fknd ci j with
    | 2 => Value.long (i64 ((List.replicate (nfld ci) (0 : Int)).getD j 0))
    | 3 => va_rf (((List.replicate (nfld ci) (none : Option Nat)).getD j none).map g.2.2)
    | _ => Value.int (i32 ((List.replicate (nfld ci) (0 : Int)).getD j 0)))
  rw [rep_get, repN_get]
  generalize fknd ci j = q
  match q with
  | 0 => rfl
  | 1 => rfl
  | 2 => rfl
  | 3 => rfl
  | _ + 4 => rfl
theorem st_call {H : Heap} {locs : List Loc} {cs cs' : CWd} {pc v kc a n f d1 d2 : Nat} {mls : Array Slot} {rest : List Value} {cc : ByteArray} {own : String} (hx : p.tables.exec = Jvm.exec) (hb : c.code = cc) (hml : c.maxLocals = n) (hsz : mls.size = n) (hown : s.vm.findClass own = some m.cls) (hG : ∀ w ∈ tblG, w.before args s = true) (hN : ∀ w ∈ tblN, va_Nw w s) (hw : WC g base cs s H locs) (hkc : kc < 12) (hd : decode cc pc = .ok (.invokespecial v, 3)) (h1 : inG (.methodLink own v (cY kc)) = true) (h2 : inG (.initialized (cn kc)) = true) (h3 : inG (.instanceMethod (cY kc)) = true)
    (hr : runC f kc 0 (entL (cML kc) [xR a]) [] cs = some cs') (he1 : cs'.length = cs.length + d1) (he2 : totS cs' = totS cs + d2) (hf1 : cFr kc + 1 ≤ R.frames) (hf2 : 8 + (cML kc + 11) + cLo kc ≤ R.locals) (hc : cells + d1 ≤ R.cells) (hs : slots + d2 ≤ R.slots) (hcr : (rest.map fun v => v.category).sum ≤ 8)
    (kk : ∀ (H' : Heap) (locs' : List Loc), WC g base cs' s H' locs' → W p l e R s m args below meth c H' locs' (cells + d1) (slots + d2) Z (F0 m (pc + 3) mls rest)) : W p l e R s m args below meth c H locs cells slots Z (F0 m pc mls (.ref (g.2.2 a) :: rest)) := by
  have hM := PC_met (runC_PC l g base f kc 0 _ _ cs cs' hr) hkc he1 he2 hw.2.2.2.2.2.1
  have ⟨w1, w2, w3, w4, w5, w6, w7, w8, w9⟩ := hw
  have hini : (Cond.initialized (cY kc).cls).before args s = true := by rw [c_cls kc hkc]; exact hG _ (inG_m h2)
  have hrun : va_Run p l e R s m args below meth c H locs cells slots d1 d2 (F0 m pc mls (([] : List Value).reverse ++ .ref (g.2.2 a) :: rest)) rest (QccC g base cs' (Value.ref (g.2.2 a) :: []).toArray) (fun q => base ≤ q) :=
    va_runI (As := []) (rest := rest) (nL := n) (Ts := tblG) (own := own) ⟨hx, hb, hml, hown, hG⟩ hM ⟨callB_of 0 hG (goodC_ws hkc) rfl rfl rfl hini (hG _ (inG_m h1)) ⟨c_no1 kc hkc, c_no2 kc hkc, c_par kc hkc⟩ ⟨hf1, hf2⟩, c_nm kc hkc, hG _ (inG_m h3)⟩
      ⟨PccC_blind, fun U hU hW => ⟨rfl, va_K.moved hW.alike w1, by rw [hU]; exact w2, w3, by rw [hU]; exact w5, w8.moved hW.alike, w9.moved hW.alike, fun w hw => nest_warm hw hW (hN w hw)⟩⟩ rfl rfl hsz rfl (lv_room hcr) hd ⟨hc, hs⟩
  intro T hT XX
  obtain ⟨vv, st₀, t, T', M, q0, X', hMf, q1, q2, ⟨hv, hP, hD, hz, hF⟩, stp⟩ := hrun T hT XX
  cases hv
  unfold va_F at hF
  rw [q0] at hF
  have hw' : WC g base cs' s T'.heap (locs ++ M) := ⟨w1, by rw [q1]; exact hP, hD, ⟨Nat.le_trans w4.1 (by rw [q1]; exact hF.1), fun q h1 h2 => by rw [q1, hF.2 q (Nat.lt_of_lt_of_le h1 w4.1) h2]; exact w4.2.1 q h1 h2, fun q hq => by
    rcases List.mem_append.mp hq with h | h
    · exact w4.2.2 q h
    · exact hMf q h⟩, by rw [q1]; exact hz, w6, w7, w8, w9⟩
  obtain ⟨t2, a1, b1⟩ := kk T'.heap (locs ++ M) hw' T' rfl X'
  exact ⟨t2, stp t2 a1, b1⟩
end Start
