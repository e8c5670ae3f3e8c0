/-! which words go along with a call -/
def isNest : Cond → Bool
  | .fieldLinkNest .. => true
  | .methodLinkNest .. => true
  | _ => false
def tblG : List Cond := lw_tbl.filter goodWord
def tblN : List Cond := lw_tbl.filter isNest
theorem fm_in {big ws : List Cond} {is : List Nat} (h : ws = is.filterMap (fun i => big[i]?)) {w : Cond} (hw : w ∈ ws) : w ∈ big := by
  rw [h] at hw
  obtain ⟨i, -, hi⟩ := List.mem_filterMap.mp hw
  exact List.mem_of_getElem? hi
theorem FL_in {e : Nat × Nat × Nat × Nat × Nat} (h : e ∈ FLt) : FLw e ∈ lw_tbl := fm_in FL_r (List.mem_map_of_mem h)
theorem ML_in {e : Nat × Nat × Nat × Nat} (h : e ∈ MLt) : MLw e ∈ lw_tbl := fm_in ML_r (List.mem_map_of_mem h)
theorem CL_in {e : Nat × Nat × Int} (h : e ∈ CLt) : CLw e ∈ lw_tbl := fm_in CL_r (List.mem_map_of_mem h)
theorem LL_in {e : Nat × Nat × Int} (h : e ∈ LLt) : LLw e ∈ lw_tbl := fm_in LL_r (List.mem_map_of_mem h)
theorem mW_in {k : Nat} (hk : k < 213) {w : Cond} (h : w ∈ mWs k) : w ∈ lw_tbl := fm_in mW_r (List.mem_flatMap.mpr ⟨k, List.mem_range.mpr hk, h⟩)
theorem ly_in {w : Cond} (h : w ∈ lyA) : w ∈ lw_tbl := fm_in ly_r h
set_option maxRecDepth 100000 in
theorem mCwA_eq : mCwA = (List.range 213).map mCw := rfl
theorem mCwA_in : ∀ w ∈ mCwA, w ∈ lw_tbl := by
  unfold mCwA
  exact List.forall_mem_append.mpr ⟨List.forall_mem_append.mpr ⟨List.forall_mem_append.mpr ⟨List.forall_mem_append.mpr ⟨List.forall_mem_append.mpr ⟨List.forall_mem_append.mpr ⟨List.forall_mem_append.mpr ⟨List.forall_mem_append.mpr ⟨List.forall_mem_append.mpr ⟨List.forall_mem_append.mpr ⟨List.forall_mem_append.mpr ⟨List.forall_mem_append.mpr ⟨List.forall_mem_append.mpr ⟨List.forall_mem_append.mpr ⟨List.forall_mem_append.mpr ⟨List.forall_mem_append.mpr ⟨List.forall_mem_append.mpr ⟨List.forall_mem_append.mpr ⟨List.forall_mem_append.mpr ⟨List.forall_mem_append.mpr ⟨List.forall_mem_append.mpr ⟨List.forall_mem_append.mpr ⟨List.forall_mem_append.mpr ⟨List.forall_mem_append.mpr ⟨List.forall_mem_append.mpr ⟨List.forall_mem_append.mpr ⟨fun w h => fm_in cw_0 h, fun w h => fm_in cw_8 h⟩, fun w h => fm_in cw_16 h⟩, fun w h => fm_in cw_24 h⟩, fun w h => fm_in cw_32 h⟩, fun w h => fm_in cw_40 h⟩, fun w h => fm_in cw_48 h⟩, fun w h => fm_in cw_56 h⟩, fun w h => fm_in cw_64 h⟩, fun w h => fm_in cw_72 h⟩, fun w h => fm_in cw_80 h⟩, fun w h => fm_in cw_88 h⟩, fun w h => fm_in cw_96 h⟩, fun w h => fm_in cw_104 h⟩, fun w h => fm_in cw_112 h⟩, fun w h => fm_in cw_120 h⟩, fun w h => fm_in cw_128 h⟩, fun w h => fm_in cw_136 h⟩, fun w h => fm_in cw_144 h⟩, fun w h => fm_in cw_152 h⟩, fun w h => fm_in cw_160 h⟩, fun w h => fm_in cw_168 h⟩, fun w h => fm_in cw_176 h⟩, fun w h => fm_in cw_184 h⟩, fun w h => fm_in cw_192 h⟩, fun w h => fm_in cw_200 h⟩, fun w h => fm_in cw_208 h⟩
theorem mC_in {k : Nat} (hk : k < 213) : mCw k ∈ lw_tbl := mCwA_in _ (by rw [mCwA_eq]; exact List.mem_map_of_mem (List.mem_range.mpr hk))
theorem FL_g {oc i c k : Nat} (h : (oc, i, c, k, 0) ∈ FLt) : Cond.fieldLink (cn oc) i (cn c) ((fT c) k).2.1 ((fT c) k).2.2.1 ∈ tblG := List.mem_filter.mpr ⟨FL_in h, rfl⟩
theorem FL_n {oc i c k n : Nat} (h : (oc, i, c, k, n + 1) ∈ FLt) : Cond.fieldLinkNest (cn oc) i (cn c) ((fT c) k).2.1 ((fT c) k).2.2.1 "OddShoes" ∈ tblN := List.mem_filter.mpr ⟨FL_in h, rfl⟩
theorem ML_g {oc i k : Nat} (h : (oc, i, k, 0) ∈ MLt) : Cond.methodLink (cn oc) i (mY k) ∈ tblG := List.mem_filter.mpr ⟨ML_in h, rfl⟩
theorem ML_n {oc i k n : Nat} (h : (oc, i, k, n + 1) ∈ MLt) : Cond.methodLinkNest (cn oc) i (mY k) "OddShoes" ∈ tblN := List.mem_filter.mpr ⟨ML_in h, rfl⟩
theorem CL_g {oc i : Nat} {z : Int} (h : (oc, i, z) ∈ CLt) : Cond.constant (cn oc) i (i32 z) ∈ tblG := List.mem_filter.mpr ⟨CL_in h, rfl⟩
theorem LL_g {oc i : Nat} {z : Int} (h : (oc, i, z) ∈ LLt) : Cond.constantLong (cn oc) i (i64 z) ∈ tblG := List.mem_filter.mpr ⟨LL_in h, rfl⟩
theorem mC_g {k : Nat} (hk : k < 213) : mCw k ∈ tblG := List.mem_filter.mpr ⟨mC_in hk, rfl⟩
theorem mI_g {k : Nat} (hk : k < 213) : Cond.initialized (mY k).cls ∈ tblG := List.mem_filter.mpr ⟨mW_in hk (by unfold mWs; split <;> simp), rfl⟩
theorem mS_g {k : Nat} (hk : k < 213) (h : mSt k = true) : Cond.static (mY k) ∈ tblG := List.mem_filter.mpr ⟨mW_in hk (by unfold mWs; rw [h]; simp), rfl⟩
theorem mV_g {k : Nat} (hk : k < 213) (h : mSt k = false) : Cond.instanceMethod (mY k) ∈ tblG := List.mem_filter.mpr ⟨mW_in hk (by unfold mWs; rw [h]; simp), rfl⟩
theorem mX_g {k : Nat} (hk : k < 213) (h : mSt k = false) : Cond.selects (mY k).cls (mY k) (mY k) ∈ tblG := List.mem_filter.mpr ⟨mW_in hk (by unfold mWs; rw [h]; simp), rfl⟩
theorem cl_at {c : Nat} (h : c < 12) : vwCl[c]? = some (cn c, fT c, nfld c) := by
  have : ∀ c, c < 12 → vwCl[c]? = some (cn c, fT c, nfld c) := by
    intro c hc
    match c, hc with
    | 0, _ => rfl
    | 1, _ => rfl
    | 2, _ => rfl
    | 3, _ => rfl
    | 4, _ => rfl
    | 5, _ => rfl
    | 6, _ => rfl
    | 7, _ => rfl
    | 8, _ => rfl
    | 9, _ => rfl
    | 10, _ => rfl
    | 11, _ => rfl
  exact this c h
theorem ly_g {c : Nat} (h : c < 12) : ∀ w ∈ u_ws (cn c) (fT c) (nfld c), w ∈ tblG := by
  intro w hw
  refine List.mem_filter.mpr ⟨ly_in (List.mem_flatMap.mpr ⟨_, List.mem_of_getElem? (cl_at h), hw⟩), ?_⟩
  obtain ⟨j, -, rfl⟩ := List.mem_map.mp hw
  unfold u_lay
  split <;> rfl
theorem fTy_ok {c : Nat} (h : c < 12) : ∀ k, k < nfld c → parseFieldDescriptor ((fT c) k).2.2.1 = some (fTy c k) := by
  match c, h with
  | 0, _ => exact tyX0_ok
  | 1, _ => exact tyX1_ok
  | 2, _ => exact tyX2_ok
  | 3, _ => exact tyX3_ok
  | 4, _ => exact tyX4_ok
  | 5, _ => exact tyX5_ok
  | 6, _ => exact tyX6_ok
  | 7, _ => exact tyX7_ok
  | 8, _ => exact tyX8_ok
  | 9, _ => exact tyX9_ok
  | 10, _ => exact tyX10_ok
  | 11, _ => exact tyX11_ok
theorem nm_ok {c : Nat} (h : c < 12) : ∀ a, a < nfld c → ∀ b, b < nfld c → a ≠ b → ((fT c) a).2.1 ≠ ((fT c) b).2.1 := by
  match c, h with
  | 0, _ => exact nmX0
  | 1, _ => exact nmX1
  | 2, _ => exact nmX2
  | 3, _ => exact nmX3
  | 4, _ => exact nmX4
  | 5, _ => exact nmX5
  | 6, _ => exact nmX6
  | 7, _ => exact nmX7
  | 8, _ => exact nmX8
  | 9, _ => exact nmX9
  | 10, _ => exact nmX10
  | 11, _ => exact nmX11
theorem own_f : ∀ c, c < 12 → ∀ k, k < nfld c → ((fT c) k).1 = cn c := by decide +kernel
/-- what may be written: of which type, not final -/
theorem put_0 : ∀ c, c < 12 → ∀ k, k < nfld c → (fknd c k = 0 → fTy c k = .int) := by decide +kernel
theorem put_1 : ∀ c, c < 12 → ∀ k, k < nfld c → (fknd c k = 1 → fTy c k = .boolean) := by decide +kernel
theorem put_2 : ∀ c, c < 12 → ∀ k, k < nfld c → (fknd c k = 2 → fTy c k = .long ∧ c = 3 ∧ (k = 4 ∨ k = 5)) := by decide +kernel
theorem put_3 : ∀ c, c < 12 → ∀ k, k < nfld c → (fknd c k < 2 → ¬ (c = 3 ∧ (k = 4 ∨ k = 5))) := by decide +kernel
theorem put_4 : ∀ c, c < 12 → ∀ k, k < nfld c → (fknd c k < 3 → ((fT c) k).2.2.2 = false) := by decide +kernel
theorem kd_le : ∀ c, c < 12 → ∀ k, k < nfld c → fknd c k < 4 := by decide +kernel
/-- an instruction as the tables have it -/
def okI (k pc n : Nat) (aux : List Nat) (z : Int) : Instr → Bool
  | .iconst v => decide (n = 1 ∧ z = v ∧ -2147483648 ≤ z ∧ z < 2147483648)
  | .bipush v => decide (n = 2 ∧ (Int8.ofInt v).toInt32 = i32 z ∧ -2147483648 ≤ z ∧ z < 2147483648)
  | .sipush v => decide (n = 3 ∧ (Int16.ofInt v).toInt32 = i32 z ∧ -2147483648 ≤ z ∧ z < 2147483648)
  | .ldc v => decide (n = 2 ∧ (mOc k, v, z) ∈ CLt ∧ -2147483648 ≤ z ∧ z < 2147483648)
  | .ldc_w v => decide (n = 3 ∧ (mOc k, v, z) ∈ CLt ∧ -2147483648 ≤ z ∧ z < 2147483648)
  | .lconst v => decide (n = 1 ∧ z = ((v.val : Nat) : Int))
  | .ldc2_w v => decide (n = 3 ∧ (mOc k, v, z) ∈ LLt ∧ -9223372036854775808 ≤ z ∧ z < 9223372036854775808)
  | .iload _ => decide (n = 2)
  | .lload _ => decide (n = 2)
  | .aload _ => decide (n = 2)
  | .iload_n _ => decide (n = 1)
  | .lload_n _ => decide (n = 1)
  | .aload_n _ => decide (n = 1)
  | .istore v => decide (n = 2 ∧ v < mML k)
  | .astore v => decide (n = 2 ∧ v < mML k)
  | .lstore v => decide (n = 2 ∧ v + 1 < mML k)
  | .istore_n v => decide (n = 1 ∧ v.val < mML k)
  | .astore_n v => decide (n = 1 ∧ v.val < mML k)
  | .lstore_n v => decide (n = 1 ∧ v.val + 1 < mML k)
  | .iinc v c => decide (n = 3 ∧ z = c ∧ v < mML k)
  | .getfield v => (match aux with
    | [ci, kk, kd, ne] => decide (n = 3 ∧ ci < 12 ∧ kk < nfld ci ∧ fknd ci kk = kd ∧ (mOc k, v, ci, kk, ne) ∈ FLt)
    | _ => false)
  | .putfield v => (match aux with
    | [ci, kk, kd, ne] => decide (n = 3 ∧ ci < 12 ∧ kk < nfld ci ∧ fknd ci kk = kd ∧ (mOc k, v, ci, kk, ne) ∈ FLt)
    | _ => false)
  | .iaload => decide (n = 1 ∧ (aux = [0] ∨ aux = [9]))
  | .aaload => decide (n = 1 ∧ (aux = [2] ∨ aux = [3]))
  | .arraylength => decide (n = 1 ∧ (aux = [0] ∨ aux = [1] ∨ aux = [2] ∨ aux = [3] ∨ aux = [9]))
  | .ifCond _ off => (match aux with
    | [t] => decide (n = 3 ∧ (pc : Int) + off = (t : Int))
    | _ => false)
  | .if_icmp _ off => (match aux with
    | [t] => decide (n = 3 ∧ (pc : Int) + off = (t : Int))
    | _ => false)
  | .ifnonnull off => (match aux with
    | [t] => decide (n = 3 ∧ (pc : Int) + off = (t : Int))
    | _ => false)
  | .goto off => (match aux with
    | [t] => decide (n = 3 ∧ (pc : Int) + off = (t : Int))
    | _ => false)
  | .ifnull _ => decide (n = 3)
  | .tableswitch d lo hi offs => (match aux with
    | t :: ts => decide ((pc : Int) + d = (t : Int) ∧ z = lo ∧ hi + 1 = lo + (ts.length : Int) ∧ offs.toList.map (fun o => (pc : Int) + o) = ts.map (fun t : Nat => (t : Int)))
    | _ => false)
  | .ireturn => decide (n = 1 ∧ ((aux = [] ∧ mRet k = some .int) ∨ (aux ≠ [] ∧ mRet k = some .boolean)))
  | .lreturn => decide (n = 1 ∧ mRet k = some .long)
  | .areturn => decide (n = 1 ∧ mRet k = some (.object "OddShoes$Person"))
  | .return_ => decide (n = 1 ∧ mRet k = none)
  | .invokestatic v => (match aux with
    | [q] => decide (n = 3 ∧ 1 ≤ mFr k ∧ 21 ≤ mLo k ∧ ((q = 0 ∧ (mOc k, v, 210, 0) ∈ MLt) ∨ (q = 1 ∧ (mOc k, v, 211, 0) ∈ MLt) ∨ (q = 2 ∧ (mOc k, v, 212, 0) ∈ MLt)))
    | [k', na, _, _, ml] => decide (n = 3 ∧ k' < 213 ∧ mSt k' = true ∧ ((mOc k, v, k', 0) ∈ MLt ∨ (mOc k, v, k', 1) ∈ MLt) ∧ (parseMethodDescriptor (mY k').desc).map (fun d => d.parameters.length) = some na ∧ mFr k' + 1 ≤ mFr k ∧ 8 + (mML k' + 11) + mLo k' ≤ mLo k ∧ ml = mML k' ∧ plainName (mY k').cls = true)
    | _ => false)
  | .invokevirtual v => (match aux with
    | [k', na, _, tg, ml] => decide (n = 3 ∧ k' < 213 ∧ mSt k' = false ∧ ((mOc k, v, k', 0) ∈ MLt ∨ (mOc k, v, k', 1) ∈ MLt) ∧ (parseMethodDescriptor (mY k').desc).map (fun d => d.parameters.length + 1) = some na ∧ mFr k' + 1 ≤ mFr k ∧ 8 + (mML k' + 11) + mLo k' ≤ mLo k ∧ 10 ≤ tg ∧ tg < 22 ∧ (mY k').cls = cn (tg - 10) ∧ ml = mML k' ∧ plainName (mY k').cls = true)
    | _ => false)
  | _ => decide (n = 1)
def okB (k : Nat) : Nat → Nat → List MI → Bool
  | pc, ft, [] => decide (pc = ft)
  | pc, ft, (p, i, aux, z) :: is => decide (p = pc) && (match decode (mCc k) p with
    | .ok (i', n) => decide (i' = i) && okI k p n aux z i && okB k (p + n) ft is
    | .error _ => false)
def okKs (ks : List Nat) : Bool := ks.all (fun k => (blkT.getD k []).all (fun b => okB k b.1 b.2.1 b.2.2))

