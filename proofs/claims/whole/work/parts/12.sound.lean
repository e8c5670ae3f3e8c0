/-! fields, rows -/
theorem Wld_up {g : GC} {L : Nat} {A : Nat → Prop} {σ : Mem} {s : State} {H H1 : Heap} {locs locs1 : List Loc} {a k : Nat} {x : Int} (h : Wld g L A σ s H locs) (ha : a ≠ 104) (hP : va_P g.1 vwCl (wsO g (up σ a k x)) H1) (hD : va_D A (wsO g (up σ a k x))) (hS : va_S A s.heap H1 locs1) (h1 : isLg a k → in64 x) (h2 : ¬ isLg a k → in32 x) : Wld g L A (up σ a k x) s H1 locs1 := by
  obtain ⟨w1, -, -, -, w5, w6, w7, w8, w9⟩ := h
  refine ⟨w1, hP, hD, hS, ?_, w6, w7, rngM_up w8 h1 h2, w9⟩
  have e : (fun j => i32 (up σ a k x 104 j)) = (fun j => i32 (σ 104 j)) := funext fun j => by rw [up_ne (fun q => ha q.symm)]
  rw [e]; exact w5
theorem lenL_lt {L a : Nat} (h : a < 104) : lenL L a = len0 a := by
  unfold lenL
  rw [if_neg (by omega)]
theorem len0_lt (a : Nat) : len0 a < 1000 := by
  unfold len0
  rcases Nat.lt_or_ge a 104 with q | q
  · have : ∀ a, a < 104 → lenT.getD a 0 < 1000 := by decide
    exact this a q
  · rw [List.getD_eq_getElem?_getD, List.getElem?_eq_none (by simpa [lenT] using q)]
    decide
theorem i32_nat (n : Nat) : i32 (n : Int) = Int32.ofNat n := Int32.ofInt_eq_ofNat
theorem in32_nat {n : Nat} (h : n < 2147483648) : in32 (n : Int) := ⟨by omega, by omega⟩
def gv (kd a k : Nat) (σ : Mem) : PV := match kd with
  | 0 => xI (σ a k)
  | 1 => xI (σ a k)
  | 2 => xL (σ a k)
  | _ => xR (tgt a k)
section Sound2
variable {p : Program} {l : Launch} {e : Env} {R : Room} {s : State} {m : MethodId} {args : Array Value} {below : List Frame} {meth : Method} {c : Code} {cells slots : Nat} {Z : State → Prop} {g : GC} {L k : Nat} {A : Nat → Prop}
variable {J : Nat → LSt → List PV → Mem → Prop} {Rt : PQ} {C : Nat → List PV → Mem → PQ → Prop} {K : LSt → List PV → Mem → Prop}
theorem gv_ok {ci kk kd a : Nat} {σ : Mem} (hc : ci < 12) (hk : kk < nfld ci) (hkd : fknd ci kk = kd) (ht : tag a = 10 + ci) (hr : rngM σ) : okV (gv kd a kk σ) ∧ fval g σ a ci kk = trV g (gv kd a kk σ) := by
  have h4 := kd_le ci hc kk hk
  have no : kd < 2 → ¬ isLg a kk := fun h q => put_3 ci hc kk hk (by omega) ⟨by
    have e : tag a = 13 := by rw [q.1]; rfl
    omega, q.2⟩
  unfold fval
  rw [hkd]
  rw [hkd] at h4
  match kd, h4 with
  | 0, _ => exact ⟨(hr a kk).2 (no (by omega)), rfl⟩
  | 1, _ => exact ⟨(hr a kk).2 (no (by omega)), rfl⟩
  | 2, _ =>
    obtain ⟨-, h3, h5⟩ := put_2 ci hc kk hk hkd
    exact ⟨(hr a kk).1 ⟨tag_13 (by rw [ht, h3]), h5⟩, rfl⟩
  | 3, _ => exact ⟨trivial, rfl⟩
theorem ks_get {pc idx : Nat} {aux : List Nat} (X : CtxM p R s m args meth c k) (hd : decode (mCc k) pc = .ok (.getfield idx, 3)) (hok : ∀ ci kk kd ne, aux = [ci, kk, kd, ne] → ci < 12 ∧ kk < nfld ci ∧ fknd ci kk = kd ∧ (mOc k, idx, ci, kk, ne) ∈ FLt)
    (hK : KS p l e R s m args below meth c cells slots Z g L A k K (pc + 3)) : KS p l e R s m args below meth c cells slots Z g L A k (fun ls st σ => wpA J Rt C K (aGet aux ls st σ)) pc := by
  intro ls st σ H locs mls h hl ho hw
  obtain ⟨hx, hb, -, hown, hG, hN, -⟩ := X
  have hinv : ∃ a r ci kk kd ne, st = xR a :: r ∧ aux = [ci, kk, kd, ne] ∧ tag a = 10 + ci ∧ K ls (gv kd a kk σ :: r) σ := by
    unfold aGet at h
    split at h
    next a r ci kk kd ne =>
      refine ⟨a, r, ci, kk, kd, ne, rfl, rfl, ?_⟩
      split at h
      · exact h
      · exact h
      · exact h
      next q0 q1 q2 =>
        refine ⟨h.1, ?_⟩
        unfold gv
        split
        · exact absurd rfl q0
        · exact absurd rfl q1
        · exact absurd rfl q2
        · exact h.2
    next => exact h.elim
  obtain ⟨a, r, ci, kk, kd, ne, rfl, ha, ht, hk⟩ := hinv
  obtain ⟨hc, hkk, hkd, hfl⟩ := hok ci kk kd ne ha
  have ⟨w1, w2, w3, w4, w5, w6, w7, w8, w9⟩ := hw
  obtain ⟨hg1, hg2⟩ := gv_ok (g := g) hc hkk hkd ht w8
  have hat := wsO_at g σ (tag_lt ht (by omega) (by omega))
  rw [cell_c ht] at hat
  have hv : ((List.range (nfld ci)).map (fval g σ a ci))[kk]? = some (trV g (gv kd a kk σ)) := by
    rw [List.getElem?_map, List.getElem?_range hkk, ← hg2]; rfl
  have hsame : ∀ x, s.fieldFound? ((fT ci) kk).1 ((fT ci) kk).2.1 ((fT ci) kk).2.2.1 = some x → s.fieldFound? (cn ci) ((fT ci) kk).2.1 ((fT ci) kk).2.2.1 = some x := by
    rw [own_f ci hc kk hkk]; exact fun _ h => h
  have kk2 := hK ls _ σ H locs mls hk hl (okV_cons (okS_tl ho) hg1) hw
  cases ne with
  | zero => exact va_get hx hb hG (ly_g hc) hown w1 w2 a hat (cl_at hc) kk hkk (hG _ (FL_g hfl)) hsame hv hd kk2
  | succ ne => exact va_getN hx hb hG (ly_g hc) hown w1 w2 a hat (cl_at hc) kk hkk (va_Nw.use rfl (hN _ (FL_n hfl))) hsame hv hd kk2
theorem ks_put {pc idx : Nat} {aux : List Nat} (X : CtxM p R s m args meth c k) (hd : decode (mCc k) pc = .ok (.putfield idx, 3)) (hok : ∀ ci kk kd ne, aux = [ci, kk, kd, ne] → ci < 12 ∧ kk < nfld ci ∧ fknd ci kk = kd ∧ (mOc k, idx, ci, kk, ne) ∈ FLt)
    (hK : KS p l e R s m args below meth c cells slots Z g L A k K (pc + 3)) : KS p l e R s m args below meth c cells slots Z g L A k (fun ls st σ => wpA J Rt C K (aPut aux ls st σ)) pc := by
  intro ls st σ H locs mls h hl ho hw
  obtain ⟨hx, hb, -, hown, hG, hN, -⟩ := X
  have hinv : ∃ v x a r ci kk kd ne, st = v :: xR a :: r ∧ aux = [ci, kk, kd, ne] ∧ tag a = 10 + ci ∧ K ls r (up σ a kk x) ∧ ((v = xI x ∧ (kd = 0 ∨ (kd = 1 ∧ (x = 0 ∨ x = 1)))) ∨ (v = xL x ∧ kd = 2)) := by
    unfold aPut at h
    split at h
    next x a r ci kk kd ne =>
      split at h
      · exact ⟨_, x, a, r, ci, kk, _, ne, rfl, rfl, h.1, h.2, Or.inl ⟨rfl, Or.inl rfl⟩⟩
      · exact ⟨_, x, a, r, ci, kk, _, ne, rfl, rfl, h.1.1, h.2, Or.inl ⟨rfl, Or.inr ⟨rfl, h.1.2⟩⟩⟩
      · exact h.elim
    next x a r ci kk kd ne =>
      split at h
      · exact ⟨_, x, a, r, ci, kk, _, ne, rfl, rfl, h.1, h.2, Or.inr ⟨rfl, rfl⟩⟩
      · exact h.elim
    next => exact h.elim
  obtain ⟨v, x, a, r, ci, kk, kd, ne, rfl, ha, ht, hk, hv⟩ := hinv
  obtain ⟨hc, hkk, hkd, hfl⟩ := hok ci kk kd ne ha
  have ⟨w1, w2, w3, w4, w5, w6, w7, w8, w9⟩ := hw
  have hvo : okV v := okS_hd ho
  have hlt := tag_lt ht (by omega) (by omega)
  have hat := wsO_at g σ hlt
  rw [cell_c ht] at hat
  have hsame : ∀ x, s.fieldFound? ((fT ci) kk).1 ((fT ci) kk).2.1 ((fT ci) kk).2.2.1 = some x → s.fieldFound? (cn ci) ((fT ci) kk).2.1 ((fT ci) kk).2.2.1 = some x := by
    rw [own_f ci hc kk hkk]; exact fun _ h => h
  have hfin : ((fT ci) kk).2.2.2 = false := put_4 ci hc kk hkk (by rcases hv with ⟨-, q | ⟨q, -⟩⟩ | ⟨-, q⟩ <;> omega)
  have hll : kk < ((List.range (nfld ci)).map (fval g σ a ci)).length := by simpa using hkk
  have hnf : narrow (fTy ci kk) (trV g v) = trV g v ∧ fits (fTy ci kk) (trV g v) = true ∧ fval g (up σ a kk x) a ci kk = trV g v := by
    unfold fval
    rw [hkd, up_at, if_pos rfl]
    rcases hv with ⟨rfl, rfl | ⟨rfl, hb⟩⟩ | ⟨rfl, rfl⟩
    · rw [put_0 ci hc kk hkk hkd]; exact ⟨rfl, rfl, rfl⟩
    · rw [put_1 ci hc kk hkk hkd]
      rcases hb with rfl | rfl
      · exact ⟨rfl, rfl, rfl⟩
      · exact ⟨rfl, rfl, rfl⟩
    · rw [(put_2 ci hc kk hkk hkd).1]; exact ⟨rfl, rfl, rfl⟩
  have hset := wsO_set (g := g) (σ := σ) (σ' := up σ a kk x) (a := a) (cell_upc ht hnf.2.2) (fun o ho j => up_ne ho j)
  have hr1 : isLg a kk → in64 x := by
    intro q
    rcases hv with ⟨rfl, -⟩ | ⟨rfl, -⟩
    · exact in64_of32 hvo
    · exact hvo
  have hr2 : ¬ isLg a kk → in32 x := by
    intro q
    rcases hv with ⟨rfl, -⟩ | ⟨rfl, rfl⟩
    · exact hvo
    · obtain ⟨-, h3, h5⟩ := put_2 ci hc kk hkk hkd
      exact absurd ⟨tag_13 (by rw [ht, h3]), h5⟩ q
  have kk2 : ∀ (H1 : Heap) (locs1 : List Loc), va_P g.1 vwCl ((wsO g σ).set a (g.2.2 a, .inr (ci, ((List.range (nfld ci)).map (fval g σ a ci)).set kk (trV g v)))) H1 → va_D A ((wsO g σ).set a (g.2.2 a, .inr (ci, ((List.range (nfld ci)).map (fval g σ a ci)).set kk (trV g v)))) → va_S A s.heap H1 locs1 → W p l e R s m args below meth c H1 locs1 cells slots Z (F0 m (pc + 3) mls (r.map (trV g))) := by
    intro H1 locs1 q1 q2 q3
    rw [hset] at q1 q2
    exact hK ls r _ H1 locs1 mls hk hl (okS_tl (okS_tl ho)) (Wld_up hw (by omega) q1 q2 q3 hr1 hr2)
  cases ne with
  | zero => exact va_put hx hb hG (ly_g hc) (fTy ci) (fTy_ok hc) (nm_ok hc) hown w1 w2 w3 w4 a hat (cl_at hc) kk hkk (hG _ (FL_g hfl)) hsame hfin (fTy_ok hc kk hkk) hnf.1 hnf.2.1 hll hd kk2
  | succ ne => exact va_putN hx hb hG (ly_g hc) (fTy ci) (fTy_ok hc) (nm_ok hc) hown w1 w2 w3 w4 a hat (cl_at hc) kk hkk (va_Nw.use rfl (hN _ (FL_n hfl))) hsame hfin (fTy_ok hc kk hkk) hnf.1 hnf.2.1 hll hd kk2
theorem no_lg {a k t : Nat} (h : tag a = t) (ht : t ≠ 13) : ¬ isLg a k := fun q => ht (by rw [← h, q.1]; rfl)
theorem ks_iald {pc : Nat} {aux : List Nat} (X : CtxM p R s m args meth c k) (hd : decode (mCc k) pc = .ok (.iaload, 1)) (hok : aux = [0] ∨ aux = [9])
    (hK : KS p l e R s m args below meth c cells slots Z g L A k K (pc + 1)) : KS p l e R s m args below meth c cells slots Z g L A k (fun ls st σ => wpA J Rt C K (act (lenL L) .iaload aux 0 ls st σ)) pc := by
  intro ls st σ H locs mls h hl ho hw
  obtain ⟨hx, hb, -, hown, hG, hN, -⟩ := X
  have ⟨w1, w2, w3, w4, w5, w6, w7, w8, w9⟩ := hw
  unfold act at h
  dsimp only at h
  split at h
  next i a r t =>
    obtain ⟨⟨ht, h0, h1⟩, hk⟩ := h
    have hi : in32 i := okS_hd ho
    have hKK := fun (q : okV (xI (σ a i.toNat))) => hK ls _ σ H locs mls hk hl (okV_cons (okS_tl (okS_tl ho)) q) hw
    rcases hok with e | e
    · cases e
      have hlt := tag_lt ht (by omega) (by omega)
      have hat := wsO_at g σ hlt
      rw [cell_0 ht] at hat
      rw [lenL_lt hlt] at h1
      refine va_iald hx hb w1 w2 a 0 hat rfl (i32_in hi h0 h1) hd ?_
      rw [i32_clamp h0 hi]
      exact hKK ((w8 a _).2 (no_lg ht (by omega)))
    · cases e
      have e9 := tag_9 ht
      subst e9
      have h1 : i < (L : Int) := h1
      refine va_sld hx hb w5 w6 w7 w4 (i32_in hi h0 h1) hd ?_
      rw [i32_clamp h0 hi]
      exact hKK ((w8 104 _).2 (no_lg ht (by omega)))
  next => exact h.elim
theorem ks_bald {pc : Nat} {aux : List Nat} (X : CtxM p R s m args meth c k) (hd : decode (mCc k) pc = .ok (.baload, 1))
    (hK : KS p l e R s m args below meth c cells slots Z g L A k K (pc + 1)) : KS p l e R s m args below meth c cells slots Z g L A k (fun ls st σ => wpA J Rt C K (act (lenL L) .baload aux 0 ls st σ)) pc := by
  intro ls st σ H locs mls h hl ho hw
  obtain ⟨hx, hb, -, hown, hG, hN, -⟩ := X
  have ⟨w1, w2, w3, w4, w5, w6, w7, w8, w9⟩ := hw
  unfold act at h
  dsimp only at h
  split at h
  next i a r =>
    obtain ⟨⟨ht, h0, h1⟩, hk⟩ := h
    have hi : in32 i := okS_hd ho
    have hlt := tag_lt ht (by omega) (by omega)
    have hat := wsO_at g σ hlt
    rw [cell_1 ht] at hat
    rw [lenL_lt hlt] at h1
    refine va_zald hx hb w1 w2 a 1 hat rfl (i32_in hi h0 h1) hd ?_
    rw [i32_clamp h0 hi]
    exact hK ls _ σ H locs mls hk hl (okV_cons (okS_tl (okS_tl ho)) (v := xI (σ a i.toNat)) ((w8 a _).2 (no_lg ht (by omega)))) hw
  next => exact h.elim
theorem ks_aald {pc : Nat} {aux : List Nat} (X : CtxM p R s m args meth c k) (hd : decode (mCc k) pc = .ok (.aaload, 1)) (hok : aux = [2] ∨ aux = [3])
    (hK : KS p l e R s m args below meth c cells slots Z g L A k K (pc + 1)) : KS p l e R s m args below meth c cells slots Z g L A k (fun ls st σ => wpA J Rt C K (act (lenL L) .aaload aux 0 ls st σ)) pc := by
  intro ls st σ H locs mls h hl ho hw
  obtain ⟨hx, hb, -, hown, hG, hN, -⟩ := X
  have ⟨w1, w2, w3, w4, w5, w6, w7, w8, w9⟩ := hw
  unfold act at h
  dsimp only at h
  split at h
  next i a r t =>
    obtain ⟨⟨ht, h0, h1⟩, hk⟩ := h
    have hi : in32 i := okS_hd ho
    have hKK := hK ls _ σ H locs mls hk hl (okV_cons (okS_tl (okS_tl ho)) (v := xR (tgt a i.toNat)) trivial) hw
    rcases hok with e | e
    · cases e
      have hlt := tag_lt ht (by omega) (by omega)
      have hat := wsO_at g σ hlt
      rw [cell_2 ht] at hat
      rw [lenL_lt hlt] at h1
      refine va_aldq hx hb w1 w2 a 2 hat rfl (i32_in hi h0 h1) hd ?_
      rw [i32_clamp h0 hi]
      exact hKK
    · cases e
      have hlt := tag_lt ht (by omega) (by omega)
      have hat := wsO_at g σ hlt
      rw [cell_3 ht] at hat
      rw [lenL_lt hlt] at h1
      refine va_aldq hx hb w1 w2 a 3 hat rfl (i32_in hi h0 h1) hd ?_
      rw [i32_clamp h0 hi]
      exact hKK
  next => exact h.elim
theorem ks_iast {pc : Nat} {aux : List Nat} (X : CtxM p R s m args meth c k) (hd : decode (mCc k) pc = .ok (.iastore, 1))
    (hK : KS p l e R s m args below meth c cells slots Z g L A k K (pc + 1)) : KS p l e R s m args below meth c cells slots Z g L A k (fun ls st σ => wpA J Rt C K (act (lenL L) .iastore aux 0 ls st σ)) pc := by
  intro ls st σ H locs mls h hl ho hw
  obtain ⟨hx, hb, -, hown, hG, hN, -⟩ := X
  have ⟨w1, w2, w3, w4, w5, w6, w7, w8, w9⟩ := hw
  unfold act at h
  dsimp only at h
  split at h
  next x i a r =>
    obtain ⟨⟨ht, h0, h1⟩, hk⟩ := h
    have hxo : in32 x := okS_hd ho
    have hi : in32 i := okS_hd (okS_tl ho)
    have hlt := tag_lt ht (by omega) (by omega)
    have hat := wsO_at g σ hlt
    rw [cell_0 ht] at hat
    rw [lenL_lt hlt] at h1
    refine va_iast hx hb w1 w2 w3 w4 a 0 hat rfl (i32_in hi h0 h1) hd (fun H1 locs1 q1 q2 q3 => ?_)
    rw [i32_clamp h0 hi, wsO_set (cell_up0 ht) (fun o ho j => up_ne ho j)] at q1 q2
    exact hK ls r _ H1 locs1 mls hk hl (okS_tl (okS_tl (okS_tl ho))) (Wld_up hw (by omega) q1 q2 q3 (fun q => absurd q (no_lg ht (by omega))) (fun _ => hxo))
  next => exact h.elim
theorem ks_bast {pc : Nat} {aux : List Nat} (X : CtxM p R s m args meth c k) (hd : decode (mCc k) pc = .ok (.bastore, 1))
    (hK : KS p l e R s m args below meth c cells slots Z g L A k K (pc + 1)) : KS p l e R s m args below meth c cells slots Z g L A k (fun ls st σ => wpA J Rt C K (act (lenL L) .bastore aux 0 ls st σ)) pc := by
  intro ls st σ H locs mls h hl ho hw
  obtain ⟨hx, hb, -, hown, hG, hN, -⟩ := X
  have ⟨w1, w2, w3, w4, w5, w6, w7, w8, w9⟩ := hw
  unfold act at h
  dsimp only at h
  split at h
  next x i a r =>
    obtain ⟨⟨ht, ⟨h0, h1⟩, hb01⟩, hk⟩ := h
    have hxo : in32 x := okS_hd ho
    have hi : in32 i := okS_hd (okS_tl ho)
    have hlt := tag_lt ht (by omega) (by omega)
    have hat := wsO_at g σ hlt
    rw [cell_1 ht] at hat
    rw [lenL_lt hlt] at h1
    have hn : vp_nar .boolean (i32 x) = i32 x := by rcases hb01 with rfl | rfl <;> rfl
    refine va_zast hx hb w1 w2 w3 w4 a 1 hat rfl (i32_in hi h0 h1) hd (fun H1 locs1 q1 q2 q3 => ?_)
    rw [hn, i32_clamp h0 hi, wsO_set (cell_up1 ht) (fun o ho j => up_ne ho j)] at q1 q2
    exact hK ls r _ H1 locs1 mls hk hl (okS_tl (okS_tl (okS_tl ho))) (Wld_up hw (by omega) q1 q2 q3 (fun q => absurd q (no_lg ht (by omega))) (fun _ => hxo))
  next => exact h.elim
theorem ks_alen {pc : Nat} {aux : List Nat} (X : CtxM p R s m args meth c k) (hd : decode (mCc k) pc = .ok (.arraylength, 1)) (hok : aux = [0] ∨ aux = [1] ∨ aux = [2] ∨ aux = [3] ∨ aux = [9])
    (hK : KS p l e R s m args below meth c cells slots Z g L A k K (pc + 1)) : KS p l e R s m args below meth c cells slots Z g L A k (fun ls st σ => wpA J Rt C K (act (lenL L) .arraylength aux 0 ls st σ)) pc := by
  intro ls st σ H locs mls h hl ho hw
  obtain ⟨hx, hb, -, hown, hG, hN, -⟩ := X
  have ⟨w1, w2, w3, w4, w5, w6, w7, w8, w9⟩ := hw
  unfold act at h
  dsimp only at h
  split at h
  next a r t =>
    obtain ⟨ht, hk⟩ := h
    rcases Nat.lt_or_ge a 104 with hlt | hlt
    · rw [lenL_lt hlt] at hk
      have hKK := hK ls _ σ H locs mls hk hl (okV_cons (okS_tl ho) (v := xI (len0 a)) (in32_nat (by have := len0_lt a; omega))) hw
      have hat := wsO_at g σ hlt
      rcases hok with e | e | e | e | e
      · cases e; rw [cell_0 ht] at hat
        exact va_alen hx hb w1 w2 a 0 hat rfl (i32_nat (len0 a)).symm hd hKK
      · cases e; rw [cell_1 ht] at hat
        exact va_alen hx hb w1 w2 a 1 hat rfl (i32_nat (len0 a)).symm hd hKK
      · cases e; rw [cell_2 ht] at hat
        exact va_alen hx hb w1 w2 a 2 hat rfl (i32_nat (len0 a)).symm hd hKK
      · cases e; rw [cell_3 ht] at hat
        exact va_alen hx hb w1 w2 a 3 hat rfl (i32_nat (len0 a)).symm hd hKK
      · cases e; exact absurd (tag_9 ht) (by omega)
    · have hts : t = 9 := by
        rcases hok with e | e | e | e | e
        · cases e; exact absurd (tag_lt ht (by omega) (by omega)) (by omega)
        · cases e; exact absurd (tag_lt ht (by omega) (by omega)) (by omega)
        · cases e; exact absurd (tag_lt ht (by omega) (by omega)) (by omega)
        · cases e; exact absurd (tag_lt ht (by omega) (by omega)) (by omega)
        · cases e; rfl
      subst hts
      have e9 := tag_9 ht
      subst e9
      have hk : K ls (xI (L : Int) :: r) σ := hk
      have hKK := hK ls _ σ H locs mls hk hl (okV_cons (okS_tl ho) (v := xI (L : Int)) (in32_nat w9)) hw
      refine va_slen hx hb w5 w6 w7 w4 hd ?_
      rw [← i32_nat]
      exact hKK
  next => exact h.elim
end Sound2
