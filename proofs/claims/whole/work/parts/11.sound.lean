/-! what holds where a method runs: its code, its words, its room; the world's cells -/
def CtxM (p : Program) (R : Room) (s : State) (m : MethodId) (args : Array Value) (meth : Method) (c : Code) (k : Nat) : Prop :=
  p.tables.exec = Jvm.exec ∧ c.code = mCc k ∧ c.maxLocals = mML k ∧ s.vm.findClass (mOwn k) = some m.cls ∧ (∀ w ∈ tblG, w.before args s = true) ∧ (∀ w ∈ tblN, va_Nw w s) ∧ mFr k ≤ R.frames ∧ mLo k ≤ R.locals ∧ meth.sig.returnType = mRet k ∧ meth.locks = false
def Wld (g : GC) (L : Nat) (A : Nat → Prop) (σ : Mem) (s : State) (H : Heap) (locs : List Loc) : Prop :=
  va_K g.1 vwCl (tysO g) s ∧ va_P g.1 vwCl (wsO g σ) H ∧ va_D A (wsO g σ) ∧ va_S A s.heap H locs ∧ va_X (g.2.2 104) L (fun j => i32 (σ 104 j)) s s.heap ∧ g.2.2 104 < s.heap.size ∧ ¬ A (g.2.2 104) ∧ rngM σ ∧ L < 2147483648
def okV (v : PV) : Prop := match v with
  | .inl x => in32 x
  | .inr (.inl x) => in64 x
  | .inr (.inr _) => True
def okS (k : Nat) (ls : LSt) (st : List PV) : Prop := ls.length = mML k ∧ (∀ v ∈ st, okV v) ∧ ∀ i v, nth ls i = some v → okV v
def retOK (g : GC) (k pc : Nat) (r : Option PV) (vs : List Value) : Prop :=
  (∃ x, r = some (xI x) ∧ vs = [.int (i32 x)] ∧ in32 x ∧ decode (mCc k) pc = .ok (.ireturn, 1) ∧ (mRet k = some .int ∨ (mRet k = some .boolean ∧ (x = 0 ∨ x = 1)))) ∨
  (∃ x, r = some (xL x) ∧ vs = [.long (i64 x)] ∧ in64 x ∧ decode (mCc k) pc = .ok (.lreturn, 1) ∧ mRet k = some .long) ∨
  (∃ a, r = some (xR a) ∧ vs = [.ref (g.2.2 a)] ∧ decode (mCc k) pc = .ok (.areturn, 1) ∧ mRet k = some (.object "OddShoes$Person")) ∨
  (r = none ∧ vs = [] ∧ decode (mCc k) pc = .ok (.return_, 1) ∧ mRet k = none)
def PP (l : Launch) (g : GC) (L : Nat) (A : Nat → Prop) : PJ := fun k pc ls st σ Q =>
  ∀ (p : Program) (e : Env) (R : Room) (s : State) (m : MethodId) (args : Array Value) (below : List Frame) (meth : Method) (c : Code) (H : Heap) (locs : List Loc) (cells slots : Nat) (Z : State → Prop) (mls : Array Slot),
    CtxM p R s m args meth c k → lv_has mls (mML k) (lvl g ls) → okS k ls st → Wld g L A σ s H locs → cells ≤ R.cells → slots ≤ R.slots →
    (∀ (r : Option PV) (σ' : Mem) (H' : Heap) (locs' : List Loc) (pc' : Nat) (mls' : Array Slot) (vs : List Value), Q r σ' → Wld g L A σ' s H' locs' → retOK g k pc' r vs → W p l e R s m args below meth c H' locs' cells slots Z (F0 m pc' mls' vs)) →
    W p l e R s m args below meth c H locs cells slots Z (F0 m pc mls (st.map (trV g)))
theorem PP_mono (l : Launch) (g : GC) (L : Nat) (A : Nat → Prop) : PMono (PP l g L A) := fun k pc ls st σ Q Q' hq h p e R s m args below meth c H locs cells slots Z mls h1 h2 h3 h4 h5 h6 h7 =>
  h p e R s m args below meth c H locs cells slots Z mls h1 h2 h3 h4 h5 h6 (fun r σ' H' locs' pc' mls' vs q => h7 r σ' H' locs' pc' mls' vs (hq r σ' q))
theorem okV_cons {k : Nat} {ls : LSt} {v : PV} {st : List PV} (h : okS k ls st) (hv : okV v) : okS k ls (v :: st) := ⟨h.1, fun w hw => by
  rcases List.mem_cons.mp hw with e | e
  · rw [e]; exact hv
  · exact h.2.1 w e, h.2.2⟩
theorem okS_tl {k : Nat} {ls : LSt} {v : PV} {st : List PV} (h : okS k ls (v :: st)) : okS k ls st := ⟨h.1, fun w hw => h.2.1 w (List.mem_cons_of_mem _ hw), h.2.2⟩
theorem okS_hd {k : Nat} {ls : LSt} {v : PV} {st : List PV} (h : okS k ls (v :: st)) : okV v := h.2.1 v List.mem_cons_self
theorem okS_stn {k i : Nat} {ls : LSt} {v : Option PV} {st : List PV} (h : okS k ls st) (hv : ∀ w, v = some w → okV w) : okS k (stn ls i v) st := ⟨by rw [stn_len]; exact h.1, h.2.1, fun j w hj => by
  rw [nth_stn] at hj
  split at hj
  · exact hv w hj
  · exact h.2.2 j w hj⟩
section Sound
variable {p : Program} {l : Launch} {e : Env} {R : Room} {s : State} {m : MethodId} {args : Array Value} {below : List Frame} {meth : Method} {c : Code} {cells slots : Nat} {Z : State → Prop} {g : GC} {L k : Nat} {A : Nat → Prop}
variable {J : Nat → LSt → List PV → Mem → Prop} {Rt : PQ} {C : Nat → List PV → Mem → PQ → Prop} {K : LSt → List PV → Mem → Prop}
def KS (p : Program) (l : Launch) (e : Env) (R : Room) (s : State) (m : MethodId) (args : Array Value) (below : List Frame) (meth : Method) (c : Code) (cells slots : Nat) (Z : State → Prop) (g : GC) (L : Nat) (A : Nat → Prop) (k : Nat) (K : LSt → List PV → Mem → Prop) (pc : Nat) : Prop :=
  ∀ (ls : LSt) (st : List PV) (σ : Mem) (H : Heap) (locs : List Loc) (mls : Array Slot), K ls st σ → lv_has mls (mML k) (lvl g ls) → okS k ls st → Wld g L A σ s H locs → W p l e R s m args below meth c H locs cells slots Z (F0 m pc mls (st.map (trV g)))
/-! pushes -/
theorem ks_push {pc n : Nat} {v : PV} (hv : okV v) (hrow : ∀ (H : Heap) (locs : List Loc) (mls : Array Slot) (rest : List Value), W p l e R s m args below meth c H locs cells slots Z (F0 m (pc + n) mls (trV g v :: rest)) → W p l e R s m args below meth c H locs cells slots Z (F0 m pc mls rest))
    (hK : KS p l e R s m args below meth c cells slots Z g L A k K (pc + n)) : KS p l e R s m args below meth c cells slots Z g L A k (fun ls st σ => wpA J Rt C K (aGo ls (v :: st) σ)) pc := fun ls st σ H locs mls h hl ho hw => hrow H locs mls _ (hK ls (v :: st) σ H locs mls h hl (okV_cons ho hv) hw)
theorem ks_ldI {pc n i : Nat} (hrow : ∀ (x : Int) (H : Heap) (locs : List Loc) (mls : Array Slot) (rest : List Value), mls[i]? = some (.val (.int (i32 x))) → W p l e R s m args below meth c H locs cells slots Z (F0 m (pc + n) mls (.int (i32 x) :: rest)) → W p l e R s m args below meth c H locs cells slots Z (F0 m pc mls rest))
    (hK : KS p l e R s m args below meth c cells slots Z g L A k K (pc + n)) : KS p l e R s m args below meth c cells slots Z g L A k (fun ls st σ => wpA J Rt C K (aLdI ls i st σ)) pc := by
  intro ls st σ H locs mls h hl ho hw
  unfold aLdI at h
  split at h
  next x hx => exact hrow x H locs mls _ (lvl_I hl hx) (hK ls _ σ H locs mls h hl (okV_cons ho (ho.2.2 i _ hx)) hw)
  next => exact h.elim
theorem ks_ldR {pc n i : Nat} (hrow : ∀ (x : Nat) (H : Heap) (locs : List Loc) (mls : Array Slot) (rest : List Value), mls[i]? = some (.val (.ref x)) → W p l e R s m args below meth c H locs cells slots Z (F0 m (pc + n) mls (.ref x :: rest)) → W p l e R s m args below meth c H locs cells slots Z (F0 m pc mls rest))
    (hK : KS p l e R s m args below meth c cells slots Z g L A k K (pc + n)) : KS p l e R s m args below meth c cells slots Z g L A k (fun ls st σ => wpA J Rt C K (aLdR ls i st σ)) pc := by
  intro ls st σ H locs mls h hl ho hw
  unfold aLdR at h
  split at h
  next x hx => exact hrow _ H locs mls _ (lvl_R hl hx) (hK ls _ σ H locs mls h hl (okV_cons ho (ho.2.2 i _ hx)) hw)
  next => exact h.elim
theorem ks_ldL {pc n i : Nat} (hrow : ∀ (x : Int) (H : Heap) (locs : List Loc) (mls : Array Slot) (rest : List Value), mls[i]? = some (.val (.long (i64 x))) → W p l e R s m args below meth c H locs cells slots Z (F0 m (pc + n) mls (.long (i64 x) :: rest)) → W p l e R s m args below meth c H locs cells slots Z (F0 m pc mls rest))
    (hK : KS p l e R s m args below meth c cells slots Z g L A k K (pc + n)) : KS p l e R s m args below meth c cells slots Z g L A k (fun ls st σ => wpA J Rt C K (aLdL ls i st σ)) pc := by
  intro ls st σ H locs mls h hl ho hw
  unfold aLdL at h
  split at h
  next x hx hn => exact hrow x H locs mls _ (lvl_L hl hx hn) (hK ls _ σ H locs mls h hl (okV_cons ho (ho.2.2 i _ hx)) hw)
  next => exact h.elim
/-! stores -/
theorem ks_stI {pc n i : Nat} (hi : i < mML k) (hrow : ∀ (x : Int32) (H : Heap) (locs : List Loc) (mls : Array Slot) (lv : List (Nat × Value)) (rest : List Value), lv_has mls (mML k) lv → (∀ mls', lv_has mls' (mML k) ((i, Value.int x) :: lv.filter (fun q => !(q.1 == i) && !(q.1 + 1 == i && q.2.category == 2))) → W p l e R s m args below meth c H locs cells slots Z (F0 m (pc + n) mls' rest)) → W p l e R s m args below meth c H locs cells slots Z (F0 m pc mls (.int x :: rest)))
    (hK : KS p l e R s m args below meth c cells slots Z g L A k K (pc + n)) : KS p l e R s m args below meth c cells slots Z g L A k (fun ls st σ => wpA J Rt C K (aStI ls i st σ)) pc := by
  intro ls st σ H locs mls h hl ho hw
  unfold aStI at h
  split at h
  next x r => exact hrow _ H locs mls _ _ hl (fun mls' h' => hK _ _ σ H locs mls' h (lvl_st1 (v := xI x) (by rw [ho.1]; exact hi) rfl h') (okS_stn (okS_tl ho) (fun w hw => by cases hw; exact okS_hd ho)) hw)
  next => exact h.elim
theorem ks_stR {pc n i : Nat} (hi : i < mML k) (hrow : ∀ (x : Nat) (H : Heap) (locs : List Loc) (mls : Array Slot) (lv : List (Nat × Value)) (rest : List Value), lv_has mls (mML k) lv → (∀ mls', lv_has mls' (mML k) ((i, Value.ref x) :: lv.filter (fun q => !(q.1 == i) && !(q.1 + 1 == i && q.2.category == 2))) → W p l e R s m args below meth c H locs cells slots Z (F0 m (pc + n) mls' rest)) → W p l e R s m args below meth c H locs cells slots Z (F0 m pc mls (.ref x :: rest)))
    (hK : KS p l e R s m args below meth c cells slots Z g L A k K (pc + n)) : KS p l e R s m args below meth c cells slots Z g L A k (fun ls st σ => wpA J Rt C K (aStR ls i st σ)) pc := by
  intro ls st σ H locs mls h hl ho hw
  unfold aStR at h
  split at h
  next x r => exact hrow _ H locs mls _ _ hl (fun mls' h' => hK _ _ σ H locs mls' h (lvl_st1 (v := xR x) (by rw [ho.1]; exact hi) rfl h') (okS_stn (okS_tl ho) (fun w hw => by cases hw; exact trivial)) hw)
  next => exact h.elim
theorem ks_stL {pc n i : Nat} (hi : i + 1 < mML k) (hrow : ∀ (x : Int64) (H : Heap) (locs : List Loc) (mls : Array Slot) (lv : List (Nat × Value)) (rest : List Value), lv_has mls (mML k) lv → (∀ mls', lv_has mls' (mML k) ((i, Value.long x) :: lv.filter (fun q => !(q.1 == i) && (!(q.1 == i + 1) && !(q.1 + 1 == i && q.2.category == 2)))) → W p l e R s m args below meth c H locs cells slots Z (F0 m (pc + n) mls' rest)) → W p l e R s m args below meth c H locs cells slots Z (F0 m pc mls (.long x :: rest)))
    (hK : KS p l e R s m args below meth c cells slots Z g L A k K (pc + n)) : KS p l e R s m args below meth c cells slots Z g L A k (fun ls st σ => wpA J Rt C K (aStL ls i st σ)) pc := by
  intro ls st σ H locs mls h hl ho hw
  unfold aStL at h
  split at h
  next x r => exact hrow _ H locs mls _ _ hl (fun mls' h' => hK _ _ σ H locs mls' h (lvl_st2 (by rw [ho.1]; exact hi) h') (okS_stn (okS_stn (okS_tl ho) (fun w hw => by cases hw; exact okS_hd ho)) (fun w hw => by cases hw)) hw)
  next => exact h.elim
/-! arithmetic -/
theorem ks_II {pc : Nat} {f : Int → Int → Int} (hf : ∀ x y, in32 x → in32 y → in32 (f x y)) (hrow : ∀ (x y : Int) (H : Heap) (locs : List Loc) (mls : Array Slot) (rest : List Value), in32 x → in32 y → W p l e R s m args below meth c H locs cells slots Z (F0 m (pc + 1) mls (.int (i32 (f x y)) :: rest)) → W p l e R s m args below meth c H locs cells slots Z (F0 m pc mls (.int (i32 y) :: .int (i32 x) :: rest)))
    (hK : KS p l e R s m args below meth c cells slots Z g L A k K (pc + 1)) : KS p l e R s m args below meth c cells slots Z g L A k (fun ls st σ => wpA J Rt C K (aII f ls st σ)) pc := by
  intro ls st σ H locs mls h hl ho hw
  unfold aII at h
  split at h
  next y x r =>
    have hy : in32 y := okS_hd ho
    have hx : in32 x := okS_hd (okS_tl ho)
    exact hrow x y H locs mls _ hx hy (hK ls _ σ H locs mls h hl (okV_cons (okS_tl (okS_tl ho)) (v := xI (f x y)) (hf x y hx hy)) hw)
  next => exact h.elim
theorem ks_Dv {pc : Nat} {f : Int → Int → Int} (hf : ∀ x y, in32 x → in32 y → in32 (f x y)) (hrow : ∀ (x y : Int) (H : Heap) (locs : List Loc) (mls : Array Slot) (rest : List Value), in32 x → in32 y → ¬ i32 y = 0 → W p l e R s m args below meth c H locs cells slots Z (F0 m (pc + 1) mls (.int (i32 (f x y)) :: rest)) → W p l e R s m args below meth c H locs cells slots Z (F0 m pc mls (.int (i32 y) :: .int (i32 x) :: rest)))
    (hK : KS p l e R s m args below meth c cells slots Z g L A k K (pc + 1)) : KS p l e R s m args below meth c cells slots Z g L A k (fun ls st σ => wpA J Rt C K (aDv f ls st σ)) pc := by
  intro ls st σ H locs mls h hl ho hw
  unfold aDv at h
  split at h
  next y x r =>
    have hy : in32 y := okS_hd ho
    have hx : in32 x := okS_hd (okS_tl ho)
    exact hrow x y H locs mls _ hx hy (fun q => h.1 ((i32_eq hy in32_0).mp q)) (hK ls _ σ H locs mls h.2 hl (okV_cons (okS_tl (okS_tl ho)) (v := xI (f x y)) (hf x y hx hy)) hw)
  next => exact h.elim
theorem ks_LL {pc : Nat} {f : Int → Int → Int} (hf : ∀ x y, in64 x → in64 y → in64 (f x y)) (hrow : ∀ (x y : Int) (H : Heap) (locs : List Loc) (mls : Array Slot) (rest : List Value), in64 x → in64 y → W p l e R s m args below meth c H locs cells slots Z (F0 m (pc + 1) mls (.long (i64 (f x y)) :: rest)) → W p l e R s m args below meth c H locs cells slots Z (F0 m pc mls (.long (i64 y) :: .long (i64 x) :: rest)))
    (hK : KS p l e R s m args below meth c cells slots Z g L A k K (pc + 1)) : KS p l e R s m args below meth c cells slots Z g L A k (fun ls st σ => wpA J Rt C K (aLL f ls st σ)) pc := by
  intro ls st σ H locs mls h hl ho hw
  unfold aLL at h
  split at h
  next y x r =>
    have hy : in64 y := okS_hd ho
    have hx : in64 x := okS_hd (okS_tl ho)
    exact hrow x y H locs mls _ hx hy (hK ls _ σ H locs mls h hl (okV_cons (okS_tl (okS_tl ho)) (v := xL (f x y)) (hf x y hx hy)) hw)
  next => exact h.elim
theorem ks_DL {pc : Nat} {f : Int → Int → Int} (hf : ∀ x y, in64 x → in64 y → in64 (f x y)) (hrow : ∀ (x y : Int) (H : Heap) (locs : List Loc) (mls : Array Slot) (rest : List Value), in64 x → in64 y → ¬ i64 y = 0 → W p l e R s m args below meth c H locs cells slots Z (F0 m (pc + 1) mls (.long (i64 (f x y)) :: rest)) → W p l e R s m args below meth c H locs cells slots Z (F0 m pc mls (.long (i64 y) :: .long (i64 x) :: rest)))
    (hK : KS p l e R s m args below meth c cells slots Z g L A k K (pc + 1)) : KS p l e R s m args below meth c cells slots Z g L A k (fun ls st σ => wpA J Rt C K (aDL f ls st σ)) pc := by
  intro ls st σ H locs mls h hl ho hw
  unfold aDL at h
  split at h
  next y x r =>
    have hy : in64 y := okS_hd ho
    have hx : in64 x := okS_hd (okS_tl ho)
    exact hrow x y H locs mls _ hx hy (fun q => h.1 ((i64_eq hy (y := 0) ⟨by decide, by decide⟩).mp q)) (hK ls _ σ H locs mls h.2 hl (okV_cons (okS_tl (okS_tl ho)) (v := xL (f x y)) (hf x y hx hy)) hw)
  next => exact h.elim
/-! branches -/
theorem ks_B1 {pc : Nat} {f : Int → Prop} {F : Int32 → Prop} {t : List Nat} (hF : ∀ x, in32 x → (F (i32 x) ↔ f x)) (hrow : ∀ (tt : Nat), t = [tt] → ∀ (x : Int32) (H : Heap) (locs : List Loc) (mls : Array Slot) (rest : List Value), (F x → W p l e R s m args below meth c H locs cells slots Z (F0 m tt mls rest)) → (¬ F x → W p l e R s m args below meth c H locs cells slots Z (F0 m (pc + 3) mls rest)) → W p l e R s m args below meth c H locs cells slots Z (F0 m pc mls (.int x :: rest)))
    (hK : KS p l e R s m args below meth c cells slots Z g L A k K (pc + 3)) (hJ : ∀ t, KS p l e R s m args below meth c cells slots Z g L A k (J t) t) : KS p l e R s m args below meth c cells slots Z g L A k (fun ls st σ => wpA J Rt C K (aB1 f t ls st σ)) pc := by
  intro ls st σ H locs mls h hl ho hw
  unfold aB1 at h
  split at h
  next x r tt =>
    have hx : in32 x := okS_hd ho
    exact hrow tt rfl _ H locs mls _ (fun q => hJ tt ls _ σ H locs mls (h.1 ((hF x hx).mp q)) hl (okS_tl ho) hw) (fun q => hK ls _ σ H locs mls (h.2 (fun z => q ((hF x hx).mpr z))) hl (okS_tl ho) hw)
  next => exact h.elim
theorem ks_B2 {pc : Nat} {f : Int → Int → Prop} {F : Int32 → Int32 → Prop} {t : List Nat} (hF : ∀ x y, in32 x → in32 y → (F (i32 x) (i32 y) ↔ f x y)) (hrow : ∀ (tt : Nat), t = [tt] → ∀ (x y : Int32) (H : Heap) (locs : List Loc) (mls : Array Slot) (rest : List Value), (F x y → W p l e R s m args below meth c H locs cells slots Z (F0 m tt mls rest)) → (¬ F x y → W p l e R s m args below meth c H locs cells slots Z (F0 m (pc + 3) mls rest)) → W p l e R s m args below meth c H locs cells slots Z (F0 m pc mls (.int y :: .int x :: rest)))
    (hK : KS p l e R s m args below meth c cells slots Z g L A k K (pc + 3)) (hJ : ∀ t, KS p l e R s m args below meth c cells slots Z g L A k (J t) t) : KS p l e R s m args below meth c cells slots Z g L A k (fun ls st σ => wpA J Rt C K (aB2 f t ls st σ)) pc := by
  intro ls st σ H locs mls h hl ho hw
  unfold aB2 at h
  split at h
  next y x r tt =>
    have hy : in32 y := okS_hd ho
    have hx : in32 x := okS_hd (okS_tl ho)
    exact hrow tt rfl _ _ H locs mls _ (fun q => hJ tt ls _ σ H locs mls (h.1 ((hF x y hx hy).mp q)) hl (okS_tl (okS_tl ho)) hw) (fun q => hK ls _ σ H locs mls (h.2 (fun z => q ((hF x y hx hy).mpr z))) hl (okS_tl (okS_tl ho)) hw)
  next => exact h.elim
end Sound
