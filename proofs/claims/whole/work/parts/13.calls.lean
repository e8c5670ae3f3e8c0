/-! calls -/
theorem mOwn_y : ∀ k, k < 214 → mOwn k = (mY k).cls := by decide +kernel
theorem mNo1 : ∀ k, k < 214 → (mY k).cls ≠ "java/lang/invoke/MethodHandle" := by decide +kernel
theorem mNo2 : ∀ k, k < 214 → (mY k).cls ≠ "java/lang/invoke/VarHandle" := by decide +kernel
theorem wsO_D {g : GC} {A : Nat → Prop} {σ σ' : Mem} (h : va_D A (wsO g σ)) : va_D A (wsO g σ') := by
  have at' : ∀ (σ : Mem) (i : Nat) (q : Nat × va_E), (wsO g σ)[i]? = some q → i < 104 ∧ q.1 = g.2.2 i := by
    intro σ i q hq
    have hi : i < 104 := by
      have := (List.getElem?_eq_some_iff.mp hq).1
      simpa [wsO] using this
    rw [wsO_at g σ hi] at hq
    exact ⟨hi, by rw [← Option.some.inj hq]⟩
  refine ⟨fun i j x y hx hy hxy => ?_, fun i q hq => ?_⟩
  · obtain ⟨hi, e1⟩ := at' σ' i x hx
    obtain ⟨hj, e2⟩ := at' σ' j y hy
    exact h.1 i j _ _ (wsO_at g σ hi) (wsO_at g σ hj) (by show g.2.2 i = g.2.2 j; rw [← e1, ← e2, hxy])
  · obtain ⟨hi, e1⟩ := at' σ' i q hq
    rw [e1]
    exact h.2 i _ (wsO_at g σ hi)
def Pcc (g : GC) (L : Nat) (A : Nat → Prop) (σ : Mem) (av : List Value) : Array Value → State → Prop := fun v U =>
  v = av.toArray ∧ va_K g.1 vwCl (tysO g) U ∧ va_P g.1 vwCl (wsO g σ) U.heap ∧ va_D A (wsO g σ) ∧ va_X (g.2.2 104) L (fun j => i32 (σ 104 j)) U U.heap ∧ g.2.2 104 < U.heap.size ∧ ∀ w ∈ tblN, va_Nw w U
def Qcc (g : GC) (L : Nat) (A : Nat → Prop) (Q : PQ) : Array Value → State → Outcome → State → Prop := fun _ st o t =>
  (∃ (r : Option PV) (σ' : Mem), Q r σ' ∧ o = .returned (r.map (trV g)) ∧ (∀ v, r = some v → okV v) ∧ va_P g.1 vwCl (wsO g σ') t.heap ∧ rngM σ' ∧ va_X (g.2.2 104) L (fun j => i32 (σ' 104 j)) st st.heap) ∧ va_F A st t
theorem Pcc_blind {g : GC} {L : Nat} {A : Nat → Prop} {σ : Mem} {av : List Value} : FrameBlind (Pcc g L A σ av) := by
  intro a U f mk h
  obtain ⟨h1, h2, h3, h4, h5, h6, h7⟩ := h
  exact ⟨h1, va_K.moved (u := U) (U := U.calling f mk a) (Vm.Alike.refl U.vm) h2, h3, h4, va_X.moved (u := U) (U := U.calling f mk a) (Vm.Alike.refl U.vm) h5, h6, fun w hw => va_Nw.same (by
    have := (List.mem_filter.mp hw).2
    cases w <;> first | rfl | (simp [isNest] at this)) (u := U) (U := U.calling f mk a) rfl (h7 w hw)⟩
theorem nest_warm {w : Cond} (hw : w ∈ tblN) {s U : State} (hW : s.WarmedH U.vm) (h : va_Nw w s) : va_Nw w U := by
  have := (List.mem_filter.mp hw).2
  cases w <;> first | exact va_Nw.warmF hW h | exact va_Nw.warmM hW h | (simp [isNest] at this)
theorem PP_met {l : Launch} {g : GC} {L : Nat} {A : Nat → Prop} {k : Nat} {as : List PV} {σ : Mem} {Q : PQ} (h : PP l g L A k 0 (entL (mML k) as) [] σ Q) (hk : k < 213) (ha : ∀ v ∈ as, okV v) (hc : cats as ≤ mML k) (hr : rngM σ) (hL : L < 2147483648) (hnA : ¬ A (g.2.2 104)) (hpl : plainName (mY k).cls = true) :
    Met l (mY k) (mCw k :: tblG) { frames := mFr k, cells := 0, slots := 0, locals := mLo k } (Pcc g L A σ (as.map (trV g))) (Qcc g L A Q) 0 0 A := by
  refine Met.ofW (cc := mCc k) (maxL := mML k) (ret := mRet k) hpl rfl ?_
  intro p e s m args below meth c s₁ B hml hv
  obtain ⟨rfl, h1, h2, h3, h4, h5, h6⟩ := hv
  have hts := atoms_spec (ws := mCw k :: tblG) B.pre
  have hown : s.vm.findClass (mY k).cls = some m.cls := findClass_of_methodNamed B.named
  have hlocks := B.notSynchronized
  rw [← mOwn_y k (by omega)] at hown
  rw [lg_entry_eq]
  refine h p e _ s m _ below meth c s.heap [] 0 0 _ _ ⟨B.exec, B.bytes, hml, hown, fun w hw => hts w (List.mem_cons_of_mem _ hw), h6, Nat.le_refl _, Nat.le_refl _, B.returns, hlocks⟩ (lvl_ent hc) ⟨entL_len as _ hc, fun v hv => by simp at hv, fun i v hi => ?_⟩ ⟨h1, h2, h3, va_S.rf, h4, h5, hnA, hr, hL⟩ (Nat.zero_le _) (Nat.zero_le _) ?_
  · have : ∀ (as : List PV) (n i : Nat) (v : PV), (∀ v ∈ as, okV v) → nth (entL n as) i = some v → okV v := by
      intro as
      induction as with
      | nil => intro n i v _ hi; rw [entL, nth_rep] at hi; cases hi
      | cons a as ih =>
        intro n i v ha hi
        have ha' : ∀ v ∈ as, okV v := fun v hv => ha v (List.mem_cons_of_mem _ hv)
        rcases a with x | x | x
        · cases i with
          | zero => cases hi; exact ha _ List.mem_cons_self
          | succ i => exact ih (n - 1) i v ha' hi
        · cases i with
          | zero => cases hi; exact ha _ List.mem_cons_self
          | succ i =>
            cases i with
            | zero => cases hi
            | succ i => exact ih (n - 2) i v ha' hi
        · cases i with
          | zero => cases hi; exact ha _ List.mem_cons_self
          | succ i => exact ih (n - 1) i v ha' hi
    exact this as _ i v ha hi
  · intro r σ' H' locs' pc' mls' vs hq hw hret
    obtain ⟨w1, w2, w3, w4, w5, w6, w7, w8, w9⟩ := hw
    have post : ∀ (o : Outcome) (t : State), t.heap = H' → o = .returned (r.map (trV g)) → (∀ v, r = some v → okV v) → Qcc g L A Q (as.map (trV g)).toArray s o t := fun o t ht ho hv =>
      ⟨⟨r, σ', hq, ho, hv, by rw [ht]; exact w2, w8, w5⟩, w4.F ht⟩
    rcases hret with ⟨x, rfl, rfl, hx, hd, ht⟩ | ⟨x, rfl, rfl, hx, hd, ht⟩ | ⟨a, rfl, rfl, hd, ht⟩ | ⟨rfl, rfl, hd, ht⟩
    · rcases ht with ht | ⟨ht, h01⟩
      · exact W.iret B.exec B.bytes (by rw [B.returns, ht]) (fun t e1 _ => post _ t e1 rfl (fun v hv => by cases hv; exact hx)) w4.2.2 hd hlocks
      · exact W.zret B.exec B.bytes (by rw [B.returns, ht]) (by rcases h01 with rfl | rfl <;> rfl) (fun t e1 _ => post _ t e1 rfl (fun v hv => by cases hv; exact hx)) w4.2.2 hd hlocks
    · exact W.lret B.exec B.bytes (by rw [B.returns, ht]) (fun t e1 _ => post _ t e1 rfl (fun v hv => by cases hv; exact hx)) w4.2.2 hd hlocks
    · exact W.aret B.exec B.bytes (by rw [B.returns, ht]) (Or.inl ⟨_, rfl⟩) (Or.inr ⟨_, rfl⟩) (fun t e1 _ => post _ t e1 rfl (fun v hv => by cases hv; exact trivial)) w4.2.2 hd hlocks
    · exact W.vret B.exec B.bytes (by rw [B.returns, ht]) (fun t e1 _ => post _ t e1 rfl (fun v hv => by cases hv)) w4.2.2 hd hlocks
theorem popN_inv : ∀ (n : Nat) (acc st as rest : List PV), popN n acc st = some (as, rest) → ∃ us, as = us ++ acc ∧ st = us.reverse ++ rest ∧ us.length = n
  | 0, acc, st, as, rest, h => by cases h; exact ⟨[], rfl, rfl, rfl⟩
  | n + 1, acc, [], as, rest, h => by cases h
  | n + 1, acc, v :: st, as, rest, h => by
    obtain ⟨us, h1, h2, h3⟩ := popN_inv n (v :: acc) st as rest h
    exact ⟨us ++ [v], by simp [h1], by simp [h2], by simp [h3]⟩
theorem cats_map (g : GC) : ∀ st : List PV, ((st.map (trV g)).map (fun v => v.category)).sum = cats st
  | [] => rfl
  | .inl x :: st => by simp [cats, trV, Value.category, ← cats_map g st]; omega
  | .inr (.inl x) :: st => by simp [cats, trV, Value.category, ← cats_map g st]; omega
  | .inr (.inr x) :: st => by simp [cats, trV, Value.category, ← cats_map g st]; omega
theorem aCall_s {aux : List Nat} {ls : LSt} {st : List PV} {σ : Mem} {J : Nat → LSt → List PV → Mem → Prop} {Rt : PQ} {C : Nat → List PV → Mem → PQ → Prop} {K : LSt → List PV → Mem → Prop} (h : wpA J Rt C K (aCall false aux ls st σ)) :
    ∃ k' na rk tg ml as rest, aux = [k', na, rk, tg, ml] ∧ popN na [] st = some (as, rest) ∧ cats rest ≤ 8 ∧ cats as ≤ ml ∧ C k' as σ (fun r σ' => pushK rk r rest (fun st' => K ls st' σ')) := by
  unfold aCall at h
  split at h
  next k' na rk tg ml =>
    cases hp : popN na [] st with
    | none => rw [hp] at h; exact h.elim
    | some q =>
      obtain ⟨as, rest⟩ := q
      rw [hp] at h
      dsimp only at h
      cases h1 : Nat.ble (cats rest) 8 with
      | false => rw [h1] at h; exact h.elim
      | true =>
        rw [h1] at h
        cases h2 : Nat.ble (cats as) ml with
        | false => rw [h2] at h; exact h.elim
        | true => rw [h2] at h; exact ⟨k', na, rk, tg, ml, as, rest, rfl, hp, Nat.le_of_ble_eq_true h1, Nat.le_of_ble_eq_true h2, h.2⟩
  next => exact h.elim
theorem aCall_v {aux : List Nat} {ls : LSt} {st : List PV} {σ : Mem} {J : Nat → LSt → List PV → Mem → Prop} {Rt : PQ} {C : Nat → List PV → Mem → PQ → Prop} {K : LSt → List PV → Mem → Prop} (h : wpA J Rt C K (aCall true aux ls st σ)) :
    ∃ k' na rk tg ml a as rest, aux = [k', na, rk, tg, ml] ∧ popN na [] st = some (xR a :: as, rest) ∧ cats rest ≤ 8 ∧ tag a = tg ∧ cats (xR a :: as) ≤ ml ∧ C k' (xR a :: as) σ (fun r σ' => pushK rk r rest (fun st' => K ls st' σ')) := by
  unfold aCall at h
  split at h
  next k' na rk tg ml =>
    cases hp : popN na [] st with
    | none => rw [hp] at h; exact h.elim
    | some q =>
      obtain ⟨as, rest⟩ := q
      rw [hp] at h
      dsimp only at h
      cases h1 : Nat.ble (cats rest) 8 with
      | false => rw [h1] at h; exact h.elim
      | true =>
        rw [h1] at h
        cases h2 : Nat.ble (cats as) ml with
        | false => rw [h2] at h; exact h.elim
        | true =>
          rw [h2] at h
          rcases as with _ | ⟨v, as⟩
          · exact h.elim
          · rcases v with x | x | x
            · exact h.elim
            · exact h.elim
            · exact ⟨k', na, rk, tg, ml, x, as, rest, rfl, hp, Nat.le_of_ble_eq_true h1, h.1, Nat.le_of_ble_eq_true h2, h.2⟩
  next => exact h.elim
theorem pushK_inv {rk : Nat} {r : Option PV} {rest : List PV} {kk : List PV → Prop} (h : pushK rk r rest kk) : ∃ st', kk st' ∧ st' = r.toList ++ rest := by
  unfold pushK at h
  split at h
  · unfold retV at h; split at h
    · exact ⟨rest, h, rfl⟩
    · exact h.elim
  · unfold retI at h; split at h
    · exact ⟨_, h, rfl⟩
    · exact h.elim
  · unfold retL at h; split at h
    · exact ⟨_, h, rfl⟩
    · exact h.elim
  · unfold retR at h; split at h
    · exact ⟨_, h, rfl⟩
    · exact h.elim
  · exact h.elim
section Calls
variable {p : Program} {l : Launch} {e : Env} {R : Room} {s : State} {m : MethodId} {args : Array Value} {below : List Frame} {meth : Method} {c : Code} {cells slots : Nat} {Z : State → Prop} {g : GC} {L k : Nat} {A : Nat → Prop}
variable {J : Nat → LSt → List PV → Mem → Prop} {Rt : PQ} {K : LSt → List PV → Mem → Prop}
theorem go_call {H : Heap} {locs : List Loc} {σ : Mem} {pc : Nat} {mls : Array Slot} {st0 rest : List Value} {a : Array Value} {Q : PQ} (hr : va_Run p l e R s m args below meth c H locs cells slots 0 0 (F0 m pc mls st0) rest (Qcc g L A Q a) A) (hw : Wld g L A σ s H locs)
    (kk : ∀ (r : Option PV) (σ' : Mem) (H1 : Heap) (locs1 : List Loc), Q r σ' → (∀ v, r = some v → okV v) → Wld g L A σ' s H1 locs1 → W p l e R s m args below meth c H1 locs1 cells slots Z (F0 m (pc + 3) mls ((r.map (trV g)).toList ++ rest))) : W p l e R s m args below meth c H locs cells slots Z (F0 m pc mls st0) := by
  intro T hT X
  obtain ⟨v, st₀, t, T', M, h0, X', hM, e1, e2, ⟨⟨r, σ', hq, hv, hok, hP, hr, hX⟩, hF⟩, st⟩ := hr T hT X
  cases hv
  obtain ⟨w1, w2, w3, w4, w5, w6, w7, w8, w9⟩ := hw
  unfold va_F at hF
  rw [h0] at hF hX
  have hS : va_S A s.heap T'.heap (locs ++ M) := ⟨Nat.le_trans w4.1 (by rw [e1]; exact hF.1), fun q h1 h2 => by rw [e1, hF.2 q (Nat.lt_of_lt_of_le h1 w4.1) h2]; exact w4.2.1 q h1 h2, fun q hq => by
    rcases List.mem_append.mp hq with h | h
    · exact w4.2.2 q h
    · exact hM q h⟩
  have hX2 : va_X (g.2.2 104) L (fun j => i32 (σ' 104 j)) s s.heap := by
    obtain ⟨scr, a1, a2, a3, a4, a5⟩ := w5
    obtain ⟨scr', b1, b2, b3, b4, b5⟩ := hX
    rw [w4.2.1 _ w6 w7, a1] at b1
    cases b1
    exact ⟨scr, a1, a2, a3, a4, b5⟩
  obtain ⟨t2, a1, b1⟩ := kk r σ' T'.heap (locs ++ M) hq hok ⟨w1, by rw [e1]; exact hP, wsO_D w3, hS, hX2, w6, w7, hr, w9⟩ T' rfl X'
  exact ⟨t2, st t2 a1, b1⟩
theorem good_ws {k' : Nat} (hk : k' < 213) : GoodIn tblG (mCw k' :: tblG) := by
  intro w hw
  rcases List.mem_cons.mp hw with rfl | h
  · exact ⟨mC_g hk, good_of_word rfl⟩
  · exact ⟨h, good_of_word (List.mem_filter.mp h).2⟩
theorem pre_at {H : Heap} {locs : List Loc} {σ : Mem} {av : List Value} (hN : ∀ w ∈ tblN, va_Nw w s) (hw : Wld g L A σ s H locs) : ∀ U : State, U.heap = H → s.WarmedH U.vm → Pcc g L A σ av av.toArray U := by
  intro U hU hW
  obtain ⟨w1, w2, w3, w4, w5, w6, w7, w8, w9⟩ := hw
  refine ⟨rfl, va_K.moved hW.alike w1, by rw [hU]; exact w2, w3, ?_, by rw [hU]; exact Nat.lt_of_lt_of_le w6 w4.1, fun w h => nest_warm h hW (hN w h)⟩
  rw [hU]
  exact va_X.moved hW.alike (w5.kept (w4.2.1 _ w6 w7))
theorem ks_static {pc idx : Nat} {aux : List Nat} (X : CtxM p R s m args meth c k) (hd : decode (mCc k) pc = .ok (.invokestatic idx, 3)) (hce : cells ≤ R.cells) (hsl : slots ≤ R.slots)
    (hok : ∀ k' na rk tg ml, aux = [k', na, rk, tg, ml] → k' < 213 ∧ mSt k' = true ∧ ((mOc k, idx, k', 0) ∈ MLt ∨ (mOc k, idx, k', 1) ∈ MLt) ∧ (parseMethodDescriptor (mY k').desc).map (fun d => d.parameters.length) = some na ∧ mFr k' + 1 ≤ mFr k ∧ 8 + (mML k' + 11) + mLo k' ≤ mLo k ∧ ml = mML k' ∧ plainName (mY k').cls = true)
    (hK : KS p l e R s m args below meth c cells slots Z g L A k K (pc + 3)) : KS p l e R s m args below meth c cells slots Z g L A k (fun ls st σ => wpA J Rt (fun k' as σ Q => PP l g L A k' 0 (entL (mML k') as) [] σ Q) K (aCall false aux ls st σ)) pc := by
  intro ls st σ H locs mls h hl ho hw
  obtain ⟨hx, hb, hml, hown, hG, hN, hfr, hlo, -⟩ := X
  obtain ⟨k', na, rk, tg, ml, as, rest, ha, hp, hcr, hca, hPP⟩ := aCall_s h
  obtain ⟨hk', hst, hml', hpar, hfr', hlo', hmm, hpl⟩ := hok k' na rk tg ml ha
  rw [hmm] at hca
  obtain ⟨us, e1, e2, e3⟩ := popN_inv na [] st as rest hp
  rw [List.append_nil] at e1
  subst e1
  subst e2
  have hM := PP_met hPP hk' (fun v hv => ho.2.1 v (List.mem_append_left _ (List.mem_reverse.mpr hv))) hca hw.2.2.2.2.2.2.2.1 hw.2.2.2.2.2.2.2.2 hw.2.2.2.2.2.2.1 hpl
  have hstk : (as.reverse ++ rest).map (trV g) = (as.map (trV g)).reverse ++ rest.map (trV g) := by simp
  rw [hstk]
  have hR : mFr k' + 1 ≤ R.frames ∧ 8 + (mML k' + 11) + mLo k' ≤ R.locals := ⟨by omega, by omega⟩
  have hdd : (mY k').cls ≠ "java/lang/invoke/MethodHandle" ∧ (mY k').cls ≠ "java/lang/invoke/VarHandle" ∧ (parseMethodDescriptor (mY k').desc).map (fun d => d.parameters.length) = some na := ⟨mNo1 k' (by omega), mNo2 k' (by omega), hpar⟩
  have hrun : va_Run p l e R s m args below meth c H locs cells slots 0 0 (F0 m pc mls ((as.map (trV g)).reverse ++ rest.map (trV g))) (rest.map (trV g)) (Qcc g L A (fun r σ' => pushK rk r rest (fun st' => K ls st' σ')) (as.map (trV g)).toArray) A := by
    rcases hml' with hm | hm
    · exact va_runS (As := as.map (trV g)) (rest := rest.map (trV g)) (nL := mML k) (Ts := tblG) (own := mOwn k) ⟨hx, hb, hml, hown, hG⟩ hM ⟨callB_of na hG (good_ws hk') rfl rfl rfl (hG _ (mI_g hk')) (hG _ (ML_g hm)) hdd hR, hG _ (mS_g hk' hst)⟩ ⟨Pcc_blind, pre_at hN hw⟩ rfl (by simpa using e3) hl.1 rfl (lv_room (by rw [cats_map]; exact hcr)) hd ⟨hce, hsl⟩
    · exact va_runSN (As := as.map (trV g)) (rest := rest.map (trV g)) (nL := mML k) (Ts := tblG) (own := mOwn k) (host := "OddShoes") ⟨hx, hb, hml, hown, hG⟩ hM ⟨va_cnB na hG (good_ws hk') rfl rfl rfl (hN _ (ML_n hm)) (hG _ (mI_g hk')) hdd hR, hG _ (mS_g hk' hst), trivial⟩ ⟨Pcc_blind, pre_at hN hw⟩ rfl (by simpa using e3) hl.1 rfl (lv_room (by rw [cats_map]; exact hcr)) hd ⟨hce, hsl⟩
  refine go_call hrun hw (fun r σ' H1 locs1 hq hrok hw' => ?_)
  obtain ⟨st', hk2, rfl⟩ := pushK_inv hq
  have hfin := hK ls _ σ' H1 locs1 mls hk2 hl ⟨ho.1, fun v hv => by
    rcases List.mem_append.mp hv with h | h
    · exact hrok v (by cases r <;> simp at h; rw [h])
    · exact ho.2.1 v (by simp [h]), ho.2.2⟩ hw'
  cases r with
  | none => exact hfin
  | some v => exact hfin
theorem ks_virt {pc idx : Nat} {aux : List Nat} (X : CtxM p R s m args meth c k) (hd : decode (mCc k) pc = .ok (.invokevirtual idx, 3)) (hce : cells ≤ R.cells) (hsl : slots ≤ R.slots)
    (hok : ∀ k' na rk tg ml, aux = [k', na, rk, tg, ml] → k' < 213 ∧ mSt k' = false ∧ ((mOc k, idx, k', 0) ∈ MLt ∨ (mOc k, idx, k', 1) ∈ MLt) ∧ (parseMethodDescriptor (mY k').desc).map (fun d => d.parameters.length + 1) = some na ∧ mFr k' + 1 ≤ mFr k ∧ 8 + (mML k' + 11) + mLo k' ≤ mLo k ∧ 10 ≤ tg ∧ tg < 22 ∧ (mY k').cls = cn (tg - 10) ∧ ml = mML k' ∧ plainName (mY k').cls = true)
    (hK : KS p l e R s m args below meth c cells slots Z g L A k K (pc + 3)) : KS p l e R s m args below meth c cells slots Z g L A k (fun ls st σ => wpA J Rt (fun k' as σ Q => PP l g L A k' 0 (entL (mML k') as) [] σ Q) K (aCall true aux ls st σ)) pc := by
  intro ls st σ H locs mls h hl ho hw
  obtain ⟨hx, hb, hml, hown, hG, hN, hfr, hlo, -⟩ := X
  obtain ⟨k', na, rk, tg, ml, a, as, rest, ha, hp, hcr, hta, hca, hPP⟩ := aCall_v h
  obtain ⟨hk', hst, hml', hpar, hfr', hlo', ht1, ht2, hcls, hmm, hpl⟩ := hok k' na rk tg ml ha
  rw [hmm] at hca
  obtain ⟨us, e1, e2, e3⟩ := popN_inv na [] st _ rest hp
  rw [List.append_nil] at e1
  subst e1
  subst e2
  have hM := PP_met hPP hk' (fun v hv => ho.2.1 v (List.mem_append_left _ (List.mem_reverse.mpr hv))) hca hw.2.2.2.2.2.2.2.1 hw.2.2.2.2.2.2.2.2 hw.2.2.2.2.2.2.1 hpl
  have hstk : ((xR a :: as).reverse ++ rest).map (trV g) = (as.map (trV g)).reverse ++ .ref (g.2.2 a) :: rest.map (trV g) := by simp [trV]
  rw [hstk]
  have hR : mFr k' + 1 ≤ R.frames ∧ 8 + (mML k' + 11) + mLo k' ≤ R.locals := ⟨by omega, by omega⟩
  have hna : na = as.length + 1 := by simpa using e3.symm
  have hpar2 : (parseMethodDescriptor (mY k').desc).map (fun d => d.parameters.length) = some as.length := by
    cases hq : parseMethodDescriptor (mY k').desc with
    | none => rw [hq] at hpar; cases hpar
    | some d => rw [hq] at hpar; simp at hpar ⊢; omega
  have hdd : (mY k').cls ≠ "java/lang/invoke/MethodHandle" ∧ (mY k').cls ≠ "java/lang/invoke/VarHandle" ∧ (parseMethodDescriptor (mY k').desc).map (fun d => d.parameters.length) = some as.length := ⟨mNo1 k' (by omega), mNo2 k' (by omega), hpar2⟩
  obtain ⟨ci, hci⟩ : ∃ ci, tg = 10 + ci := ⟨tg - 10, by omega⟩
  have hc12 : ci < 12 := by omega
  have hcls2 : (mY k').cls = cn ci := by rw [hcls, hci]; congr 1; omega
  have hta2 : tag a = 10 + ci := by rw [hta, hci]
  have hat := wsO_at g σ (tag_lt hta2 (by omega) (by omega))
  rw [cell_c hta2] at hat
  have hrecv := va_recv hw.1 hw.2.1 (cl_at hc12) hat
  have hpre : PreV s H (mY k').cls (g.2.2 a) (Pcc g L A σ ((xR a :: as).map (trV g))) (as.map (trV g)) := ⟨Pcc_blind, by rw [hcls2]; exact hrecv, pre_at (av := (xR a :: as).map (trV g)) hN hw⟩
  have hrun : va_Run p l e R s m args below meth c H locs cells slots 0 0 (F0 m pc mls ((as.map (trV g)).reverse ++ .ref (g.2.2 a) :: rest.map (trV g))) (rest.map (trV g)) (Qcc g L A (fun r σ' => pushK rk r rest (fun st' => K ls st' σ')) (Value.ref (g.2.2 a) :: as.map (trV g)).toArray) A := by
    rcases hml' with hm | hm
    · exact va_runV (As := as.map (trV g)) (rest := rest.map (trV g)) (nL := mML k) (Ts := tblG) (own := mOwn k) (C := (mY k').cls) ⟨hx, hb, hml, hown, hG⟩ hM ⟨callB_of as.length hG (good_ws hk') rfl rfl rfl (hG _ (mI_g hk')) (hG _ (ML_g hm)) hdd hR, hG _ (mV_g hk' hst), hG _ (mX_g hk' hst)⟩ hpre rfl (by simp) hl.1 rfl (lv_room (by rw [cats_map]; exact hcr)) hd ⟨hce, hsl⟩
    · exact va_runVN (As := as.map (trV g)) (rest := rest.map (trV g)) (nL := mML k) (Ts := tblG) (own := mOwn k) (C := (mY k').cls) (host := "OddShoes") ⟨hx, hb, hml, hown, hG⟩ hM ⟨va_cnB as.length hG (good_ws hk') rfl rfl rfl (hN _ (ML_n hm)) (hG _ (mI_g hk')) hdd hR, hG _ (mV_g hk' hst), hG _ (mX_g hk' hst)⟩ hpre rfl (by simp) hl.1 rfl (lv_room (by rw [cats_map]; exact hcr)) hd ⟨hce, hsl⟩
  refine go_call hrun hw (fun r σ' H1 locs1 hq hrok hw' => ?_)
  obtain ⟨st', hk2, rfl⟩ := pushK_inv hq
  have hfin := hK ls _ σ' H1 locs1 mls hk2 hl ⟨ho.1, fun v hv => by
    rcases List.mem_append.mp hv with h | h
    · exact hrok v (by cases r <;> simp at h; rw [h])
    · exact ho.2.1 v (by simp [h]), ho.2.2⟩ hw'
  cases r with
  | none => exact hfin
  | some v => exact hfin
end Calls
