/-! every instruction, every block, every method -/
theorem i64_nat (n : Nat) : i64 (n : Int) = Int64.ofNat n := Int64.ofInt_eq_ofNat
theorem swK_out {J : Nat → Prop} {d : Nat} {x : Int} : ∀ (ts : List Nat) (lo : Int), (∀ j : Nat, j < ts.length → x ≠ lo + (j : Int)) → swK J d x lo ts → J d
  | [], _, _, h => h
  | t :: ts, lo, hn, h => swK_out ts (lo + 1) (fun j hj => by have := hn (j + 1) (by simpa using hj); intro e; apply this; rw [e]; omega) (h.2 (by have := hn 0 (by simp); simpa using this))
theorem swK_at {J : Nat → Prop} {d : Nat} {x : Int} : ∀ (ts : List Nat) (lo : Int) (j t : Nat), ts[j]? = some t → x = lo + (j : Int) → swK J d x lo ts → J t
  | [], _, _, _, h, _, _ => by simp at h
  | u :: ts, lo, 0, t, hj, hx, h => by
    simp at hj
    subst hj
    exact h.1 (by simpa using hx)
  | u :: ts, lo, j + 1, t, hj, hx, h => swK_at ts (lo + 1) j t (by simpa using hj) (by rw [hx]; omega) (h.2 (by rw [hx]; omega))
theorem act_call {len : Nat → Nat} {v k' na rk tg ml : Nat} {z : Int} {ls : LSt} {st : List PV} {σ : Mem} : act len (.invokestatic v) [k', na, rk, tg, ml] z ls st σ = aCall false [k', na, rk, tg, ml] ls st σ := by
  match k' with
  | 0 => rfl
  | 1 => rfl
  | 2 => rfl
  | n + 3 => rfl
section Disp
variable {p : Program} {l : Launch} {e : Env} {R : Room} {s : State} {m : MethodId} {args : Array Value} {below : List Frame} {meth : Method} {c : Code} {cells slots : Nat} {Z : State → Prop} {g : GC} {L k : Nat} {A : Nat → Prop}
variable {J : Nat → LSt → List PV → Mem → Prop} {Rt : PQ} {C : Nat → List PV → Mem → PQ → Prop} {K : LSt → List PV → Mem → Prop}
theorem ks_P1 {pc : Nat} {f : Int → Int} (hf : ∀ x, in32 x → in32 (f x)) (hrow : ∀ (x : Int) (H : Heap) (locs : List Loc) (mls : Array Slot) (rest : List Value), mls.size = mML k → in32 x → (rest.map fun v => v.category).sum ≤ 8 → W p l e R s m args below meth c H locs cells slots Z (F0 m (pc + 3) mls (.int (i32 (f x)) :: rest)) → W p l e R s m args below meth c H locs cells slots Z (F0 m pc mls (.int (i32 x) :: rest)))
    (hK : KS p l e R s m args below meth c cells slots Z g L A k K (pc + 3)) : KS p l e R s m args below meth c cells slots Z g L A k (fun ls st σ => wpA J Rt C K (aP1 f ls st σ)) pc := by
  intro ls st σ H locs mls h hl ho hw
  unfold aP1 at h
  split at h
  next x r =>
    cases h1 : Nat.ble (cats r) 8 with
    | false => rw [h1] at h; exact h.elim
    | true =>
      rw [h1] at h
      have hx : in32 x := okS_hd ho
      exact hrow x H locs mls _ hl.1 hx (by rw [cats_map]; exact Nat.le_of_ble_eq_true h1) (hK ls _ σ H locs mls h hl (okV_cons (okS_tl ho) (v := xI (f x)) (hf x hx)) hw)
  next => exact h.elim
theorem ks_P2 {pc : Nat} {f : Int → Int → Int} (hf : ∀ x y, in32 x → in32 y → in32 (f x y)) (hrow : ∀ (x y : Int) (H : Heap) (locs : List Loc) (mls : Array Slot) (rest : List Value), mls.size = mML k → in32 x → in32 y → (rest.map fun v => v.category).sum ≤ 8 → W p l e R s m args below meth c H locs cells slots Z (F0 m (pc + 3) mls (.int (i32 (f x y)) :: rest)) → W p l e R s m args below meth c H locs cells slots Z (F0 m pc mls (.int (i32 y) :: .int (i32 x) :: rest)))
    (hK : KS p l e R s m args below meth c cells slots Z g L A k K (pc + 3)) : KS p l e R s m args below meth c cells slots Z g L A k (fun ls st σ => wpA J Rt C K (aP2 f ls st σ)) pc := by
  intro ls st σ H locs mls h hl ho hw
  unfold aP2 at h
  split at h
  next y x r =>
    cases h1 : Nat.ble (cats r) 8 with
    | false => rw [h1] at h; exact h.elim
    | true =>
      rw [h1] at h
      have hy : in32 y := okS_hd ho
      have hx : in32 x := okS_hd (okS_tl ho)
      exact hrow x y H locs mls _ hl.1 hx hy (by rw [cats_map]; exact Nat.le_of_ble_eq_true h1) (hK ls _ σ H locs mls h hl (okV_cons (okS_tl (okS_tl ho)) (v := xI (f x y)) (hf x y hx hy)) hw)
  next => exact h.elim
theorem ks_iinc {pc i : Nat} {z : Int} {aux : List Nat} (X : CtxM p R s m args meth c k) (hd : decode (mCc k) pc = .ok (.iinc i z, 3)) (hi : i < mML k)
    (hK : KS p l e R s m args below meth c cells slots Z g L A k K (pc + 3)) : KS p l e R s m args below meth c cells slots Z g L A k (fun ls st σ => wpA J Rt C K (act (lenL L) (.iinc i z) aux z ls st σ)) pc := by
  intro ls st σ H locs mls h hl ho hw
  have h : wpA J Rt C K (match nth ls i with
    | some (.inl x) => aGo (stn ls i (some (xI (w32 (x + z))))) st σ
    | _ => aNo) := h
  split at h
  next x hx =>
    obtain ⟨j, hj⟩ := List.getElem?_of_mem (lvl_mem (g := g) (ls := ls) (q := (i, .int (i32 x))).mpr (by show lvV g ls i = _; unfold lvV; rw [hx]))
    exact lv_iinc X.1 X.2.1 hd hl hj (i32_add x z).symm hi rfl (fun mls' h' => hK _ _ σ H locs mls' h (lvl_st1 (v := xI (w32 (x + z))) (by rw [ho.1]; exact hi) rfl h') (okS_stn ho (fun w hw => by cases hw; exact in32_w _)) hw)
  next => exact h.elim
theorem ks_tsw {pc n : Nat} {d lo hi z : Int} {offs : Array Int} {aux : List Nat} (X : CtxM p R s m args meth c k) (hd : decode (mCc k) pc = .ok (.tableswitch d lo hi offs, n)) (hok : ∀ t ts, aux = t :: ts → (pc : Int) + d = (t : Int) ∧ z = lo ∧ hi + 1 = lo + (ts.length : Int) ∧ offs.toList.map (fun o => (pc : Int) + o) = ts.map (fun t : Nat => (t : Int)))
    (hJ : ∀ t, KS p l e R s m args below meth c cells slots Z g L A k (J t) t) : KS p l e R s m args below meth c cells slots Z g L A k (fun ls st σ => wpA J Rt C K (act (lenL L) (.tableswitch d lo hi offs) aux z ls st σ)) pc := by
  intro ls st σ H locs mls h hl ho hw
  rcases st with _ | ⟨x | x | x, r⟩ <;> first | exact h.elim | skip
  rcases aux with _ | ⟨t, ts⟩
  · exact h.elim
  · have h : swK (fun t => J t ls r σ) t x z ts := h
    obtain ⟨h1, rfl, h3, h4⟩ := hok t ts rfl
    have hx : in32 x := okS_hd ho
    have ex := i32_toInt hx
    by_cases hin : x < z ∨ hi < x
    · exact lv_tableOut X.1 X.2.1 hd (by rw [ex]; exact hin) h1 (hJ t ls r σ H locs mls (swK_out ts z (fun j hj => by omega) h) hl (okS_tl ho) hw)
    · have hj : (x - z).toNat < ts.length := by omega
      obtain ⟨t2, ht2⟩ : ∃ t2, ts[(x - z).toNat]? = some t2 := ⟨_, List.getElem?_eq_getElem hj⟩
      have h5 : (offs.toList.map (fun o => (pc : Int) + o))[(x - z).toNat]? = some ((t2 : Nat) : Int) := by rw [h4, List.getElem?_map, ht2]; rfl
      rw [List.getElem?_map] at h5
      cases ho2 : offs.toList[(x - z).toNat]? with
      | none => rw [ho2] at h5; cases h5
      | some off =>
        rw [ho2] at h5
        refine lv_tableIn X.1 X.2.1 hd (by rw [ex]; omega) (by rw [ex]; omega) (off := off) (by rw [ex]; simpa using ho2) (Option.some.inj h5) (hJ t2 ls r σ H locs mls (swK_at ts z _ t2 ht2 (by omega) h) hl (okS_tl ho) hw)
set_option maxHeartbeats 4000000 in
theorem ks_act {pc n : Nat} {i : Instr} {aux : List Nat} {z : Int} (X : CtxM p R s m args meth c k) (hce : cells ≤ R.cells) (hsl : slots ≤ R.slots) (hd : decode (mCc k) pc = .ok (i, n)) (hok : okI k pc n aux z i = true)
    (hR : ∀ (r : Option PV) (σ' : Mem) (H' : Heap) (locs' : List Loc) (pc' : Nat) (mls' : Array Slot) (vs : List Value), Rt r σ' → Wld g L A σ' s H' locs' → retOK g k pc' r vs → W p l e R s m args below meth c H' locs' cells slots Z (F0 m pc' mls' vs))
    (hK : KS p l e R s m args below meth c cells slots Z g L A k K (pc + n)) (hJ : ∀ t, KS p l e R s m args below meth c cells slots Z g L A k (J t) t) : KS p l e R s m args below meth c cells slots Z g L A k (fun ls st σ => wpA J Rt (fun k' as σ Q => PP l g L A k' 0 (entL (mML k') as) [] σ Q) K (act (lenL L) i aux z ls st σ)) pc := by
  have hx := X.1
  have hb := X.2.1
  have hml := X.2.2.1
  have hown := X.2.2.2.1
  have hG := X.2.2.2.2.1
  have hfr := X.2.2.2.2.2.2.1
  have hlo := X.2.2.2.2.2.2.2.1
  cases i with
  | iconst v => obtain ⟨rfl, rfl, h1, h2⟩ := of_decide_eq_true hok; exact ks_push (v := xI _) ⟨h1, h2⟩ (fun H locs mls rest q => lv_iconst hx hb hd rfl q) hK
  | bipush v => obtain ⟨rfl, h0, h1, h2⟩ := of_decide_eq_true hok; exact ks_push (v := xI z) ⟨h1, h2⟩ (fun H locs mls rest q => lv_bipush hx hb hd h0 q) hK
  | sipush v => obtain ⟨rfl, h0, h1, h2⟩ := of_decide_eq_true hok; exact ks_push (v := xI z) ⟨h1, h2⟩ (fun H locs mls rest q => lv_sipush hx hb hd h0 q) hK
  | ldc v => obtain ⟨rfl, h0, h1, h2⟩ := of_decide_eq_true hok; exact ks_push (v := xI z) ⟨h1, h2⟩ (fun H locs mls rest q => lv_ldc hx hb hown (hG _ (CL_g h0)) hd q) hK
  | ldc_w v => obtain ⟨rfl, h0, h1, h2⟩ := of_decide_eq_true hok; exact ks_push (v := xI z) ⟨h1, h2⟩ (fun H locs mls rest q => lv_ldcw hx hb hown (hG _ (CL_g h0)) hd q) hK
  | lconst v =>
    obtain ⟨rfl, h0⟩ := of_decide_eq_true hok
    subst h0
    have hv := v.isLt
    exact ks_push (v := xL _) (show in64 _ from ⟨by omega, by omega⟩) (fun H locs mls rest q => lv_lconst hx hb hd (i64_nat _).symm q) hK
  | ldc2_w v => obtain ⟨rfl, h0, h1, h2⟩ := of_decide_eq_true hok; exact ks_push (v := xL z) ⟨h1, h2⟩ (fun H locs mls rest q => lv_ldc2 hx hb hown (hG _ (LL_g h0)) hd q) hK
  | iload v => obtain rfl := of_decide_eq_true hok; exact ks_ldI (fun x H locs mls rest h q => lv_iload hx hb hd h q) hK
  | iload_n v => obtain rfl := of_decide_eq_true hok; exact ks_ldI (fun x H locs mls rest h q => lv_iload_n hx hb hd rfl h q) hK
  | lload v => obtain rfl := of_decide_eq_true hok; exact ks_ldL (fun x H locs mls rest h q => lv_lload hx hb hd h q) hK
  | lload_n v => obtain rfl := of_decide_eq_true hok; exact ks_ldL (fun x H locs mls rest h q => lv_lload_n hx hb hd rfl h q) hK
  | aload v => obtain rfl := of_decide_eq_true hok; exact ks_ldR (fun x H locs mls rest h q => lv_aload hx hb hd h q) hK
  | aload_n v => obtain rfl := of_decide_eq_true hok; exact ks_ldR (fun x H locs mls rest h q => lv_aload_n hx hb hd rfl h q) hK
  | istore v => obtain ⟨rfl, h0⟩ := of_decide_eq_true hok; exact ks_stI h0 (fun x H locs mls lv rest h q => lv_istore hx hb hd h h0 rfl q) hK
  | istore_n v => obtain ⟨rfl, h0⟩ := of_decide_eq_true hok; exact ks_stI h0 (fun x H locs mls lv rest h q => lv_istore_n hx hb hd rfl h h0 rfl q) hK
  | astore v => obtain ⟨rfl, h0⟩ := of_decide_eq_true hok; exact ks_stR h0 (fun x H locs mls lv rest h q => lv_astore hx hb hd h h0 rfl q) hK
  | astore_n v => obtain ⟨rfl, h0⟩ := of_decide_eq_true hok; exact ks_stR h0 (fun x H locs mls lv rest h q => lv_astore_n hx hb hd rfl h h0 rfl q) hK
  | lstore v => obtain ⟨rfl, h0⟩ := of_decide_eq_true hok; exact ks_stL h0 (fun x H locs mls lv rest h q => lv_lstore hx hb hd h h0 rfl q) hK
  | lstore_n v => obtain ⟨rfl, h0⟩ := of_decide_eq_true hok; exact ks_stL h0 (fun x H locs mls lv rest h q => lv_lstore_n hx hb hd rfl h h0 rfl q) hK
  | iinc v c => obtain ⟨rfl, rfl, h0⟩ := of_decide_eq_true hok; exact ks_iinc X hd h0 hK
  | iadd => obtain rfl := of_decide_eq_true hok; exact ks_II (f := fun x y => w32 (x + y)) (fun _ _ _ _ => in32_w _) (fun x y H locs mls rest _ _ q => lv_iadd hx hb hd (by rw [← i32_add]; exact q)) hK
  | isub => obtain rfl := of_decide_eq_true hok; exact ks_II (f := fun x y => w32 (x - y)) (fun _ _ _ _ => in32_w _) (fun x y H locs mls rest _ _ q => lv_isub hx hb hd (by rw [← i32_sub]; exact q)) hK
  | imul => obtain rfl := of_decide_eq_true hok; exact ks_II (f := fun x y => w32 (x * y)) (fun _ _ _ _ => in32_w _) (fun x y H locs mls rest _ _ q => lv_imul hx hb hd (by rw [← i32_mul]; exact q)) hK
  | idiv => obtain rfl := of_decide_eq_true hok; exact ks_Dv (f := fun x y => w32 (x.tdiv y)) (fun _ _ _ _ => in32_w _) (fun x y H locs mls rest h1 h2 h3 q => lv_idiv hx hb hd h3 (by rw [← i32_div h1 h2]; exact q)) hK
  | irem => obtain rfl := of_decide_eq_true hok; exact ks_Dv (f := fun x y => x.tmod y) (fun _ y h _ => in32_rem y h) (fun x y H locs mls rest h1 h2 h3 q => lv_irem hx hb hd h3 (by rw [← i32_rem h1 h2]; exact q)) hK
  | iand => obtain rfl := of_decide_eq_true hok; exact ks_II (f := and32) (fun _ _ _ _ => in32_toInt _) (fun x y H locs mls rest _ _ q => lv_iand hx hb hd (by rw [show i32 (and32 x y) = i32 x &&& i32 y from i32_of _] at q; exact q)) hK
  | ior => obtain rfl := of_decide_eq_true hok; exact ks_II (f := or32) (fun _ _ _ _ => in32_toInt _) (fun x y H locs mls rest _ _ q => lv_ior hx hb hd (by rw [show i32 (or32 x y) = i32 x ||| i32 y from i32_of _] at q; exact q)) hK
  | ixor => obtain rfl := of_decide_eq_true hok; exact ks_II (f := xor32) (fun _ _ _ _ => in32_toInt _) (fun x y H locs mls rest _ _ q => lv_ixor hx hb hd (by rw [show i32 (xor32 x y) = i32 x ^^^ i32 y from i32_of _] at q; exact q)) hK
  | ishl => obtain rfl := of_decide_eq_true hok; exact ks_II (f := shl32) (fun _ _ _ _ => in32_toInt _) (fun x y H locs mls rest _ _ q => lv_ishl hx hb hd (by rw [show i32 (shl32 x y) = i32 x <<< (i32 y &&& 31) from i32_of _] at q; exact q)) hK
  | ishr => obtain rfl := of_decide_eq_true hok; exact ks_II (f := shr32) (fun _ _ _ _ => in32_toInt _) (fun x y H locs mls rest _ _ q => lv_ishr hx hb hd (by rw [show i32 (shr32 x y) = i32 x >>> (i32 y &&& 31) from i32_of _] at q; exact q)) hK
  | iushr => obtain rfl := of_decide_eq_true hok; exact ks_II (f := ush32) (fun _ _ _ _ => in32_toInt _) (fun x y H locs mls rest _ _ q => lv_iushr hx hb hd (i32_of _).symm q) hK
  | ineg =>
    obtain rfl := of_decide_eq_true hok
    intro ls st σ H locs mls h hl ho hw
    rcases st with _ | ⟨x | x | x, r⟩
    · exact h.elim
    · exact lv_ineg hx hb hd (by rw [← i32_neg]; exact hK ls (xI (w32 (-x)) :: r) σ H locs mls h hl (okV_cons (okS_tl ho) (v := xI (w32 (-x))) (in32_w _)) hw)
    · exact h.elim
    · exact h.elim
  | ladd => obtain rfl := of_decide_eq_true hok; exact ks_LL (f := fun x y => w64 (x + y)) (fun _ _ _ _ => in64_w _) (fun x y H locs mls rest _ _ q => lv_ladd hx hb hd (by rw [← i64_add]; exact q)) hK
  | lsub => obtain rfl := of_decide_eq_true hok; exact ks_LL (f := fun x y => w64 (x - y)) (fun _ _ _ _ => in64_w _) (fun x y H locs mls rest _ _ q => lv_lsub hx hb hd (by rw [← i64_sub]; exact q)) hK
  | lmul => obtain rfl := of_decide_eq_true hok; exact ks_LL (f := fun x y => w64 (x * y)) (fun _ _ _ _ => in64_w _) (fun x y H locs mls rest _ _ q => lv_lmul hx hb hd (by rw [← i64_mul]; exact q)) hK
  | ldiv => obtain rfl := of_decide_eq_true hok; exact ks_DL (f := fun x y => w64 (x.tdiv y)) (fun _ _ _ _ => in64_w _) (fun x y H locs mls rest h1 h2 h3 q => lv_ldiv hx hb hd h3 (by rw [← i64_div h1 h2]; exact q)) hK
  | lrem => obtain rfl := of_decide_eq_true hok; exact ks_DL (f := fun x y => x.tmod y) (fun _ y h _ => in64_rem y h) (fun x y H locs mls rest h1 h2 h3 q => lv_lrem hx hb hd h3 (by rw [← i64_rem h1 h2]; exact q)) hK
  | lcmp =>
    obtain rfl := of_decide_eq_true hok
    intro ls st σ H locs mls h hl ho hw
    rcases st with _ | ⟨y | y | y, _ | ⟨x | x | x, r⟩⟩ <;> first | exact h.elim | skip
    exact W.lcmp hx hb hd (by rw [← i32_cmp (okS_hd (okS_tl ho)) (okS_hd ho)]; exact hK ls (xI (cmpL x y) :: r) σ H locs mls h hl (okV_cons (okS_tl (okS_tl ho)) (v := xI (cmpL x y)) (in32_cmp x y)) hw)
  | i2l =>
    obtain rfl := of_decide_eq_true hok
    intro ls st σ H locs mls h hl ho hw
    rcases st with _ | ⟨x | x | x, r⟩ <;> first | exact h.elim | skip
    exact lv_i2l hx hb hd (i32_i2l (okS_hd ho)) (hK ls (xL x :: r) σ H locs mls h hl (okV_cons (okS_tl ho) (v := xL x) (in64_of32 (okS_hd ho))) hw)
  | dup =>
    obtain rfl := of_decide_eq_true hok
    intro ls st σ H locs mls h hl ho hw
    rcases st with _ | ⟨x | x | x, r⟩ <;> first | exact h.elim | skip
    · exact lv_dup hx hb hd rfl (hK ls (xI x :: xI x :: r) σ H locs mls h hl (okV_cons ho (okS_hd ho)) hw)
    · exact lv_dup hx hb hd rfl (hK ls (xR x :: xR x :: r) σ H locs mls h hl (okV_cons ho (okS_hd ho)) hw)
  | dup2 =>
    obtain rfl := of_decide_eq_true hok
    intro ls st σ H locs mls h hl ho hw
    rcases st with _ | ⟨x | x | x, r⟩
    · exact h.elim
    · rcases r with _ | ⟨y | y | y, r⟩ <;> first | exact h.elim | skip
      · exact lv_dup2_11 hx hb hd rfl rfl (hK ls (xI x :: xI y :: xI x :: xI y :: r) σ H locs mls h hl (okV_cons (okV_cons ho (okS_hd (okS_tl ho))) (okS_hd ho)) hw)
      · exact lv_dup2_11 hx hb hd rfl rfl (hK ls (xI x :: xR y :: xI x :: xR y :: r) σ H locs mls h hl (okV_cons (okV_cons ho (okS_hd (okS_tl ho))) (okS_hd ho)) hw)
    · exact lv_dup2_2 hx hb hd rfl (hK ls (xL x :: xL x :: r) σ H locs mls h hl (okV_cons ho (okS_hd ho)) hw)
    · exact h.elim
  | pop =>
    obtain rfl := of_decide_eq_true hok
    intro ls st σ H locs mls h hl ho hw
    rcases st with _ | ⟨x | x | x, r⟩ <;> first | exact h.elim | skip
    · exact lv_pop hx hb hd rfl (hK ls r σ H locs mls h hl (okS_tl ho) hw)
    · exact lv_pop hx hb hd rfl (hK ls r σ H locs mls h hl (okS_tl ho) hw)
  | getfield v =>
    unfold okI at hok
    dsimp only at hok
    split at hok
    next ci kk kd ne =>
      obtain ⟨rfl, h1, h2, h3, h4⟩ := of_decide_eq_true hok
      exact ks_get X hd (fun a b c d q => by cases q; exact ⟨h1, h2, h3, h4⟩) hK
    next => cases hok
  | putfield v =>
    unfold okI at hok
    dsimp only at hok
    split at hok
    next ci kk kd ne =>
      obtain ⟨rfl, h1, h2, h3, h4⟩ := of_decide_eq_true hok
      exact ks_put X hd (fun a b c d q => by cases q; exact ⟨h1, h2, h3, h4⟩) hK
    next => cases hok
  | iaload => obtain ⟨rfl, h0⟩ := of_decide_eq_true hok; exact ks_iald X hd h0 hK
  | baload => obtain rfl := of_decide_eq_true hok; exact ks_bald (aux := aux) X hd hK
  | aaload => obtain ⟨rfl, h0⟩ := of_decide_eq_true hok; exact ks_aald X hd h0 hK
  | iastore => obtain rfl := of_decide_eq_true hok; exact ks_iast (aux := aux) X hd hK
  | bastore => obtain rfl := of_decide_eq_true hok; exact ks_bast (aux := aux) X hd hK
  | arraylength => obtain ⟨rfl, h0⟩ := of_decide_eq_true hok; exact ks_alen X hd h0 hK
  | ifCond cc off =>
    unfold okI at hok
    dsimp only at hok
    split at hok
    next t =>
      obtain ⟨rfl, h0⟩ := of_decide_eq_true hok
      cases cc with
      | eq => exact ks_B1 (F := fun x => x = 0) (fun x h => i32_eq h in32_0) (fun tt e x H locs mls rest a b => by cases e; exact lv_if_eq hx hb hd h0 a b) hK hJ
      | ne => exact ks_B1 (F := fun x => ¬ x = 0) (fun x h => not_congr (i32_eq h in32_0)) (fun tt e x H locs mls rest a b => by cases e; exact lv_if_ne hx hb hd h0 a (fun q => b (fun n => n q))) hK hJ
      | lt => exact ks_B1 (F := fun x => x < 0) (fun x h => i32_lt h in32_0) (fun tt e x H locs mls rest a b => by cases e; exact lv_if_lt hx hb hd h0 a b) hK hJ
      | ge => exact ks_B1 (F := fun x => 0 ≤ x) (fun x h => i32_le in32_0 h) (fun tt e x H locs mls rest a b => by cases e; exact lv_if_ge hx hb hd h0 a b) hK hJ
      | gt => exact ks_B1 (F := fun x => 0 < x) (fun x h => i32_lt in32_0 h) (fun tt e x H locs mls rest a b => by cases e; exact lv_if_gt hx hb hd h0 a b) hK hJ
      | le => exact ks_B1 (F := fun x => x ≤ 0) (fun x h => i32_le h in32_0) (fun tt e x H locs mls rest a b => by cases e; exact lv_if_le hx hb hd h0 a b) hK hJ
    next => cases hok
  | if_icmp cc off =>
    unfold okI at hok
    dsimp only at hok
    split at hok
    next t =>
      obtain ⟨rfl, h0⟩ := of_decide_eq_true hok
      cases cc with
      | eq => exact ks_B2 (F := fun x y => x = y) (fun x y h h' => i32_eq h h') (fun tt e x y H locs mls rest a b => by cases e; exact lv_icmp_eq hx hb hd h0 a b) hK hJ
      | ne => exact ks_B2 (F := fun x y => ¬ x = y) (fun x y h h' => not_congr (i32_eq h h')) (fun tt e x y H locs mls rest a b => by cases e; exact lv_icmp_ne hx hb hd h0 a (fun q => b (fun n => n q))) hK hJ
      | lt => exact ks_B2 (F := fun x y => x < y) (fun x y h h' => i32_lt h h') (fun tt e x y H locs mls rest a b => by cases e; exact lv_icmp_lt hx hb hd h0 a b) hK hJ
      | ge => exact ks_B2 (F := fun x y => y ≤ x) (fun x y h h' => i32_le h' h) (fun tt e x y H locs mls rest a b => by cases e; exact lv_icmp_ge hx hb hd h0 a b) hK hJ
      | gt => exact ks_B2 (F := fun x y => y < x) (fun x y h h' => i32_lt h' h) (fun tt e x y H locs mls rest a b => by cases e; exact lv_icmp_gt hx hb hd h0 a b) hK hJ
      | le => exact ks_B2 (F := fun x y => x ≤ y) (fun x y h h' => i32_le h h') (fun tt e x y H locs mls rest a b => by cases e; exact lv_icmp_le hx hb hd h0 a b) hK hJ
    next => cases hok
  | ifnull off =>
    obtain rfl := of_decide_eq_true hok
    intro ls st σ H locs mls h hl ho hw
    rcases st with _ | ⟨x | x | x, r⟩ <;> first | exact h.elim | skip
    exact lv_ifnull hx hb hd (hK ls r σ H locs mls h hl (okS_tl ho) hw)
  | ifnonnull off =>
    unfold okI at hok
    dsimp only at hok
    split at hok
    next t =>
      obtain ⟨rfl, h0⟩ := of_decide_eq_true hok
      intro ls st σ H locs mls h hl ho hw
      rcases st with _ | ⟨x | x | x, r⟩ <;> first | exact h.elim | skip
      exact lv_ifnonnull hx hb hd h0 (hJ t ls r σ H locs mls h hl (okS_tl ho) hw)
    next => cases hok
  | goto off =>
    unfold okI at hok
    dsimp only at hok
    split at hok
    next t =>
      obtain ⟨rfl, h0⟩ := of_decide_eq_true hok
      intro ls st σ H locs mls h hl ho hw
      exact lv_goto hx hb hd h0 (hJ t ls st σ H locs mls h hl ho hw)
    next => cases hok
  | tableswitch d lo hi offs =>
    unfold okI at hok
    dsimp only at hok
    split at hok
    next t ts => exact ks_tsw X hd (fun a b q => by cases q; exact of_decide_eq_true hok) hJ
    next => cases hok
  | ireturn =>
    obtain ⟨rfl, h0⟩ := of_decide_eq_true hok
    intro ls st σ H locs mls h hl ho hw
    rcases st with _ | ⟨x | x | x, _ | ⟨y, r⟩⟩ <;> first | exact h.elim | skip
    rcases h0 with ⟨rfl, h0⟩ | ⟨hne, h0⟩
    · exact hR _ σ H locs pc mls _ h hw (Or.inl ⟨x, rfl, rfl, okS_hd ho, hd, Or.inl h0⟩)
    · rcases aux with _ | ⟨q, _ | ⟨q2, q3⟩⟩
      · exact absurd rfl hne
      · exact hR _ σ H locs pc mls _ h.2 hw (Or.inl ⟨x, rfl, rfl, okS_hd ho, hd, Or.inr ⟨h0, h.1⟩⟩)
      · exact h.elim
  | lreturn =>
    obtain ⟨rfl, h0⟩ := of_decide_eq_true hok
    intro ls st σ H locs mls h hl ho hw
    rcases st with _ | ⟨x | x | x, _ | ⟨y, r⟩⟩ <;> first | exact h.elim | skip
    exact hR _ σ H locs pc mls _ h hw (Or.inr (Or.inl ⟨x, rfl, rfl, okS_hd ho, hd, h0⟩))
  | areturn =>
    obtain ⟨rfl, h0⟩ := of_decide_eq_true hok
    intro ls st σ H locs mls h hl ho hw
    rcases st with _ | ⟨x | x | x, _ | ⟨y, r⟩⟩ <;> first | exact h.elim | skip
    exact hR _ σ H locs pc mls _ h hw (Or.inr (Or.inr (Or.inl ⟨x, rfl, rfl, hd, h0⟩)))
  | return_ =>
    obtain ⟨rfl, h0⟩ := of_decide_eq_true hok
    intro ls st σ H locs mls h hl ho hw
    rcases st with _ | ⟨x, r⟩ <;> first | exact h.elim | skip
    exact hR _ σ H locs pc mls _ h hw (Or.inr (Or.inr (Or.inr ⟨rfl, rfl, hd, h0⟩)))
  | invokestatic v =>
    unfold okI at hok
    dsimp only at hok
    split at hok
    next q =>
      obtain ⟨rfl, h1, h2, h3⟩ := of_decide_eq_true hok
      rcases h3 with ⟨rfl, h3⟩ | ⟨rfl, h3⟩ | ⟨rfl, h3⟩
      · refine ks_P1 (f := fAbs) (fun x h => ?_) (fun x H locs mls rest hsz h hc q => va_mabs hx hb (by rw [hml, hsz]) hown (hG _ (ML_g h3)) (hG _ (mS_g (k := 210) (by omega) rfl)) (hG _ (mI_g (k := 210) (by omega))) (hG _ (mC_g (k := 210) (by omega))) (by omega) (by omega) hce hsl hd ?_) hK
        · unfold fAbs; split
          · exact h
          · exact in32_w _
        · have hf : i32 (fAbs x) = if 0 ≤ i32 x then i32 x else 0 - i32 x := by
            unfold fAbs
            have : (0 ≤ i32 x) ↔ 0 ≤ x := i32_le in32_0 h
            by_cases hh : 0 ≤ x
            · rw [if_pos hh, if_pos (this.mpr hh)]
            · rw [if_neg hh, if_neg (fun q => hh (this.mp q)), i32_sub]; rfl
          rw [← hf]; exact q
      · refine ks_P2 (f := fMax) (fun x y h h' => ?_) (fun x y H locs mls rest hsz h h' hc q => va_mmax hx hb (by rw [hml, hsz]) hown (hG _ (ML_g h3)) (hG _ (mS_g (k := 211) (by omega) rfl)) (hG _ (mI_g (k := 211) (by omega))) (hG _ (mC_g (k := 211) (by omega))) (by omega) (by omega) hce hsl hd ?_) hK
        · unfold fMax; split
          · exact h'
          · exact h
        · have hf : i32 (fMax x y) = if i32 x < i32 y then i32 y else i32 x := by
            unfold fMax
            by_cases hh : x < y
            · rw [if_pos hh, if_pos ((i32_lt h h').mpr hh)]
            · rw [if_neg hh, if_neg (fun q => hh ((i32_lt h h').mp q))]
          rw [← hf]; exact q
      · refine ks_P2 (f := fMin) (fun x y h h' => ?_) (fun x y H locs mls rest hsz h h' hc q => va_mmin hx hb (by rw [hml, hsz]) hown (hG _ (ML_g h3)) (hG _ (mS_g (k := 212) (by omega) rfl)) (hG _ (mI_g (k := 212) (by omega))) (hG _ (mC_g (k := 212) (by omega))) (by omega) (by omega) hce hsl hd ?_) hK
        · unfold fMin; split
          · exact h'
          · exact h
        · have hf : i32 (fMin x y) = if i32 y < i32 x then i32 y else i32 x := by
            unfold fMin
            by_cases hh : y < x
            · rw [if_pos hh, if_pos ((i32_lt h' h).mpr hh)]
            · rw [if_neg hh, if_neg (fun q => hh ((i32_lt h' h).mp q))]
          rw [← hf]; exact q
    next k' na rk tg ml =>
      obtain ⟨rfl, h1, h2, h3, h4, h5, h6, h7, h8⟩ := of_decide_eq_true hok
      have ea : ∀ ls st σ, act (lenL L) (.invokestatic v) [k', na, rk, tg, ml] z ls st σ = aCall false [k', na, rk, tg, ml] ls st σ := fun ls st σ => act_call
      intro ls st σ H locs mls h
      rw [ea] at h
      exact ks_static (aux := [k', na, rk, tg, ml]) X hd hce hsl (fun a b c d e q => by cases q; exact ⟨h1, h2, h3, h4, h5, h6, h7, h8⟩) hK ls st σ H locs mls h
    next => cases hok
  | invokevirtual v =>
    unfold okI at hok
    dsimp only at hok
    split at hok
    next k' na rk tg ml =>
      obtain ⟨rfl, h1, h2, h3, h4, h5, h6, h7, h8, h9, h10, h11⟩ := of_decide_eq_true hok
      exact ks_virt (aux := [k', na, rk, tg, ml]) X hd hce hsl (fun a b c d e q => by cases q; exact ⟨h1, h2, h3, h4, h5, h6, h7, h8, h9, h10, h11⟩) hK
    next => cases hok
  | _ => exact fun ls st σ H locs mls h => h.elim
end Disp
theorem ks_blk {p : Program} {l : Launch} {e : Env} {R : Room} {s : State} {m : MethodId} {args : Array Value} {below : List Frame} {meth : Method} {c : Code} {cells slots : Nat} {Z : State → Prop} {g : GC} {L k : Nat} {A : Nat → Prop} {J : Nat → LSt → List PV → Mem → Prop} {Rt : PQ} (X : CtxM p R s m args meth c k) (hce : cells ≤ R.cells) (hsl : slots ≤ R.slots)
    (hR : ∀ (r : Option PV) (σ' : Mem) (H' : Heap) (locs' : List Loc) (pc' : Nat) (mls' : Array Slot) (vs : List Value), Rt r σ' → Wld g L A σ' s H' locs' → retOK g k pc' r vs → W p l e R s m args below meth c H' locs' cells slots Z (F0 m pc' mls' vs))
    (hJ : ∀ t, KS p l e R s m args below meth c cells slots Z g L A k (J t) t) (ft : Nat) : ∀ (is : List MI) (pc : Nat), okB k pc ft is = true → KS p l e R s m args below meth c cells slots Z g L A k (fun ls st σ => wpB (lenL L) J Rt (fun k' as σ Q => PP l g L A k' 0 (entL (mML k') as) [] σ Q) ft is ls st σ) pc
  | [], pc, h => by
    have : pc = ft := of_decide_eq_true h
    subst this
    exact hJ pc
  | (q, i, aux, z) :: is, pc, h => by
    unfold okB at h
    rw [Bool.and_eq_true] at h
    obtain ⟨h1, h2⟩ := h
    have h1 := of_decide_eq_true h1
    subst h1
    split at h2
    next i' n hd =>
      rw [Bool.and_eq_true, Bool.and_eq_true] at h2
      obtain ⟨⟨h3, h4⟩, h5⟩ := h2
      have h3 := of_decide_eq_true h3
      subst h3
      exact ks_act X hce hsl hd h4 hR (ks_blk X hce hsl hR hJ ft is (q + n) h5) hJ
    next => cases h2
theorem findB_mem : ∀ (bs : List (Nat × Nat × List MI)) (pc ft : Nat) (is : List MI), findB bs pc = some (ft, is) → (pc, ft, is) ∈ bs
  | [], _, _, _, h => by cases h
  | (q, f, js) :: bs, pc, ft, is, h => by
    unfold findB at h
    cases hq : Nat.beq q pc with
    | true =>
      rw [hq] at h
      have e := Nat.eq_of_beq_eq_true hq
      subst e
      cases h
      exact List.mem_cons_self
    | false => rw [hq] at h; exact List.mem_cons_of_mem _ (findB_mem bs pc ft is h)
theorem ok_law : ∀ b ∈ blkT.getD 213 [], okB 213 b.1 b.2.1 b.2.2 = true := by
  show ∀ b ∈ b_213, okB 213 b.1 b.2.1 b.2.2 = true
  unfold b_213
  exact List.forall_mem_cons.mpr ⟨okl_18, List.forall_mem_cons.mpr ⟨okl_188, List.forall_mem_cons.mpr ⟨okl_211, List.forall_mem_cons.mpr ⟨okl_264, List.forall_mem_cons.mpr ⟨okl_307, List.forall_mem_cons.mpr ⟨okl_350, List.forall_mem_cons.mpr ⟨okl_413, List.forall_mem_cons.mpr ⟨okl_436, List.forall_mem_cons.mpr ⟨okl_469, List.forall_mem_cons.mpr ⟨okl_492, List.forall_mem_cons.mpr ⟨okl_505, List.forall_mem_cons.mpr ⟨okl_518, List.forall_mem_cons.mpr ⟨okl_541, List.forall_mem_cons.mpr ⟨okl_554, List.forall_mem_cons.mpr ⟨okl_587, List.forall_mem_cons.mpr ⟨okl_620, List.forall_mem_cons.mpr ⟨okl_663, List.forall_mem_cons.mpr ⟨okl_696, List.forall_mem_cons.mpr ⟨okl_739, List.forall_mem_cons.mpr ⟨okl_782, List.forall_mem_cons.mpr ⟨okl_815, List.forall_mem_cons.mpr ⟨okl_858, List.forall_mem_cons.mpr ⟨okl_911, List.forall_mem_cons.mpr ⟨okl_954, List.forall_mem_cons.mpr ⟨okl_1007, List.forall_mem_cons.mpr ⟨okl_1030, List.forall_mem_cons.mpr ⟨okl_1053, List.forall_mem_cons.mpr ⟨okl_1096, List.forall_mem_cons.mpr ⟨okl_1129, List.forall_mem_cons.mpr ⟨okl_1142, List.forall_mem_cons.mpr ⟨okl_1165, List.forall_mem_cons.mpr ⟨okl_1188, List.forall_mem_cons.mpr ⟨okl_1232, List.forall_mem_cons.mpr ⟨okl_1275, List.forall_mem_cons.mpr ⟨okl_1298, List.forall_mem_cons.mpr ⟨okl_1321, List.forall_mem_cons.mpr ⟨okl_1344, List.forall_mem_cons.mpr ⟨okl_1350, fun _ h => absurd h List.not_mem_nil⟩⟩⟩⟩⟩⟩⟩⟩⟩⟩⟩⟩⟩⟩⟩⟩⟩⟩⟩⟩⟩⟩⟩⟩⟩⟩⟩⟩⟩⟩⟩⟩⟩⟩⟩⟩⟩⟩
set_option maxRecDepth 100000 in
theorem ok_any {k : Nat} : ∀ b ∈ blkT.getD k [], okB k b.1 b.2.1 b.2.2 = true := by
  rcases Nat.lt_or_ge k 213 with h | h
  · exact ok_all h
  · rcases Nat.eq_or_lt_of_le h with e | e
    · subst e; exact ok_law
    · intro b hb
      rw [List.getD_eq_getElem?_getD, List.getElem?_eq_none (show blkT.length ≤ k from Nat.le_trans (Nat.le_of_eq (show blkT.length = 214 from rfl)) e)] at hb
      simp at hb
/-- what X says is so on the machine -/
theorem PP_clo (l : Launch) (g : GC) (L : Nat) (A : Nat → Prop) : Clo L (PP l g L A) := by
  refine ⟨PP_mono l g L A, fun k pc ls st σ Q h => ?_⟩
  intro p e R s m args below meth c H locs cells slots Z mls X hl ho hw hce hsl hR
  unfold wpM at h
  split at h
  next ft is hbk =>
    exact ks_blk X hce hsl hR (J := fun t ls st σ => PP l g L A k t ls st σ Q) (fun t ls st σ H locs mls h hl ho hw => h p e R s m args below meth c H locs cells slots Z mls X hl ho hw hce hsl hR) ft is pc (ok_any _ (findB_mem _ _ _ _ hbk)) ls st σ H locs mls h hl ho hw
  next => exact h.elim
theorem X_PP {L k pc : Nat} {ls : LSt} {st : List PV} {σ : Mem} {Q : PQ} (h : X L k pc ls st σ Q) (l : Launch) (g : GC) (A : Nat → Prop) : PP l g L A k pc ls st σ Q := h _ (PP_clo l g L A)
