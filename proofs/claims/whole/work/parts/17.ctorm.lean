def WC (g : GC) (base : Nat) (cs : CWd) (s : State) (H : Heap) (locs : List Loc) : Prop :=
  va_K g.1 vwCl (tysO g) s ∧ va_P g.1 vwCl (wsC g cs) H ∧ va_D (fun q => base ≤ q) (wsC g cs) ∧ va_S (fun q => base ≤ q) s.heap H locs ∧ H.size = base + cs.length ∧ (∀ o, o < 104 → g.2.2 o = base + o) ∧ base ≤ s.heap.size ∧ va_AO "OddShoes$Person" s ∧ va_AO "OddShoes$Valley" s
def CtxC (p : Program) (R : Room) (s : State) (m : MethodId) (args : Array Value) (meth : Method) (c : Code) (k : Nat) : Prop :=
  p.tables.exec = Jvm.exec ∧ c.code = cCc k ∧ c.maxLocals = cML k ∧ s.vm.findClass (cn k) = some m.cls ∧ (∀ w ∈ tblG, w.before args s = true) ∧ (∀ w ∈ tblN, va_Nw w s) ∧ cFr k ≤ R.frames ∧ cLo k ≤ R.locals ∧ meth.sig.returnType = none ∧ meth.locks = false ∧ meth.name = "<init>"
def okSC (k : Nat) (ls : LSt) (st : List PV) : Prop := ls.length = cML k ∧ (∀ v ∈ st, okV v) ∧ (∀ i v, nth ls i = some v → okV v)
def PC (l : Launch) (g : GC) (base : Nat) (k pc : Nat) (ls : LSt) (st : List PV) (cs cs' : CWd) : Prop :=
  ∀ (p : Program) (e : Env) (R : Room) (s : State) (m : MethodId) (args : Array Value) (below : List Frame) (meth : Method) (c : Code) (H : Heap) (locs : List Loc) (cells slots d1 d2 : Nat) (Z : State → Prop) (mls : Array Slot),
    CtxC p R s m args meth c k → lv_has mls (cML k) (lvl g ls) → okSC k ls st → WC g base cs s H locs → cs'.length = cs.length + d1 → totS cs' = totS cs + d2 → cells + d1 ≤ R.cells → slots + d2 ≤ R.slots →
    (∀ (H' : Heap) (locs' : List Loc) (pc' : Nat) (mls' : Array Slot), WC g base cs' s H' locs' → decode (cCc k) pc' = .ok (.return_, 1) → W p l e R s m args below meth c H' locs' (cells + d1) (slots + d2) Z (F0 m pc' mls' [])) →
    W p l e R s m args below meth c H locs cells slots Z (F0 m pc mls (st.map (trV g)))
theorem WC_push {g : GC} {base : Nat} {cs : CWd} {s : State} {H H1 : Heap} {locs : List Loc} {c : CCell} (h : WC g base cs s H locs) (hl : cs.length < 104) (hz : H1.size = base + cs.length + 1) (ho : ∀ q : Nat, q < base + cs.length → H1[q]? = H[q]?) (hat : va_at g.1 vwCl (base + cs.length, encC g c) H1) : WC g base (cs ++ [c]) s H1 locs := by
  obtain ⟨w1, w2, w3, w4, w5, w6, w7, w8, w9⟩ := h
  have hk : ∀ (k : Nat) (x : Nat × va_E), (wsC g cs)[k]? = some x → H1[x.1]? = H[x.1]? := fun k x hx => ho x.1 (by have := (w2 k x hx).lt; omega)
  have e : g.2.2 cs.length = base + cs.length := w6 _ hl
  refine ⟨w1, ?_, ?_, ⟨Nat.le_trans w4.1 (by omega), fun q h1 h2 => (ho q (by have := w4.1; omega)).trans (w4.2.1 q h1 h2), w4.2.2⟩, by rw [hz, List.length_append]; rfl, w6, w7, w8, w9⟩
  · rw [wsC_push, e]
    refine (w2.kept hk).app (fun k x hx => ?_)
    have hz : k < 1 := (List.getElem?_eq_some_iff.mp hx).1
    rw [show k = 0 by omega] at hx
    cases hx
    exact hat
  · rw [wsC_push, e]
    exact w3.push w2 w5.symm (Nat.le_add_right _ _)
theorem WC_set {g : GC} {base a : Nat} {cs : CWd} {s : State} {H H1 : Heap} {locs locs1 : List Loc} {c : CCell} (h : WC g base cs s H locs) (ha : a < cs.length) (hz : H1.size = H.size) (hP : va_P g.1 vwCl ((wsC g cs).set a (g.2.2 a, encC g c)) H1) (hD : va_D (fun q => base ≤ q) ((wsC g cs).set a (g.2.2 a, encC g c))) (hS : va_S (fun q => base ≤ q) s.heap H1 locs1) : WC g base (cs.set a c) s H1 locs1 := by
  obtain ⟨w1, w2, w3, w4, w5, w6, w7, w8, w9⟩ := h
  rw [wsC_set g cs a c ha] at hP hD
  exact ⟨w1, hP, hD, hS, by rw [hz, w5, List.length_set], w6, w7, w8, w9⟩
theorem dflt_ok : ∀ c, c < 12 → ∀ k, k < nfld c → defaultValue (fTy c k) = (match fknd c k with
  | 2 => .long 0
  | 3 => .null
  | _ => .int 0) := by decide +kernel
def isRT : FieldType → Bool
  | .object _ => true
  | .array _ => true
  | _ => false
theorem ref_ok : ∀ c, c < 12 → ∀ k, k < nfld c → fknd c k = 3 → isRT (fTy c k) = true := by decide +kernel
theorem nar_ref {t : FieldType} (h : isRT t = true) (a : Nat) : narrow t (.ref a) = .ref a ∧ fits t (.ref a) = true := by
  cases t <;> first | (cases h; done) | exact ⟨rfl, rfl⟩
theorem encC_c {g : GC} {c : CCell} {ci : Nat} (h : c.1 = 10 + ci) : encC g c = .inr (ci, (List.range (nfld ci)).map (fvalC g c ci)) := by
  have e : 10 + ci = (ci + 6) + 4 := by omega
  unfold encC
  rw [h, e]
  simp only [show ci + 6 + 4 - 10 = ci by omega]
theorem encC_2 {g : GC} {c : CCell} (h : c.1 = 2) : encC g c = .inl (g.2.1.2.2.1, c.2.2.length, .inr (.inr (.inr (.inr (fun j => (c.2.2.getD j none).map g.2.2))))) := by
  unfold encC; rw [h]; rfl
theorem encC_3 {g : GC} {c : CCell} (h : c.1 = 3) : encC g c = .inl (g.2.1.2.2.2, c.2.2.length, .inr (.inr (.inr (.inr (fun j => (c.2.2.getD j none).map g.2.2))))) := by
  unfold encC; rw [h]; rfl
theorem slC_c {c : CCell} {ci : Nat} (h : c.1 = 10 + ci) : slC c = nfld ci := by
  have e : 10 + ci = (ci + 6) + 4 := by omega
  unfold slC
  rw [h, e]
  simp only [show ci + 6 + 4 - 10 = ci by omega]
theorem encC_set {g : GC} {c : CCell} {c' : CCell} {ci kk : Nat} {v : Value} (h : c.1 = 10 + ci) (h' : c'.1 = 10 + ci) (hv : fvalC g c' ci kk = v) (ho : ∀ j, j ≠ kk → fvalC g c' ci j = fvalC g c ci j) : encC g c' = .inr (ci, ((List.range (nfld ci)).map (fvalC g c ci)).set kk v) := by
  rw [encC_c h']
  congr 2
  apply List.ext_getElem?
  intro i
  rw [List.getElem?_set, List.getElem?_map, List.getElem?_map]
  by_cases hi : i < nfld ci
  · rw [List.getElem?_range hi]
    by_cases hk : kk = i
    · subst hk
      rw [if_pos rfl, if_pos (by simpa using hi), ← hv]
      rfl
    · rw [if_neg hk]
      show some _ = some _
      rw [ho i (fun q => hk q.symm)]
  · rw [List.getElem?_eq_none (l := List.range (nfld ci)) (by simpa using Nat.not_lt.mp hi)]
    split
    next h => subst h; rw [if_neg (by simpa using hi)]; rfl
    next => rfl
theorem getD_set_ne {α : Type} {l : List α} {i j : Nat} {a d : α} (h : j ≠ i) : (l.set i a).getD j d = l.getD j d := by
  rw [List.getD_eq_getElem?_getD, List.getD_eq_getElem?_getD, List.getElem?_set, if_neg (fun q => h q.symm)]
theorem getD_set_eq {α : Type} {l : List α} {i : Nat} {a d : α} (h : i < l.length) : (l.set i a).getD i d = a := by
  rw [List.getD_eq_getElem?_getD, List.getElem?_set, if_pos rfl, if_pos h]
  rfl
section CtorM
variable {p : Program} {l : Launch} {e : Env} {R : Room} {s : State} {m : MethodId} {args : Array Value} {below : List Frame} {meth : Method} {c : Code} {cells slots : Nat} {Z : State → Prop} {g : GC} {k base : Nat}
/-- a new object -/
theorem ct_new {H : Heap} {locs : List Loc} {cs : CWd} {pc v ci : Nat} {mls : Array Slot} {rest : List Value} (X : CtxC p R s m args meth c k) (hw : WC g base cs s H locs) (hci : ci < 12) (hd : decode (cCc k) pc = .ok (.new v, 3)) (h1 : inG (.classLink (cn k) v (cn ci)) = true) (h2 : inG (.instantiable (cn ci) (nfld ci)) = true) (h3 : inG (.initialized (cn ci)) = true) (hl : cs.length < 104) (hc : cells + 1 ≤ R.cells) (hs : slots + nfld ci ≤ R.slots)
    (kk : ∀ H' : Heap, WC g base (cs ++ [(10 + ci, List.replicate (nfld ci) 0, List.replicate (nfld ci) none)]) s H' locs → W p l e R s m args below meth c H' locs (cells + 1) (slots + nfld ci) Z (F0 m (pc + 3) mls (.ref (base + cs.length) :: rest))) : W p l e R s m args below meth c H locs cells slots Z (F0 m pc mls rest) := by
  obtain ⟨hx, hb, -, hown, hG, hN, -⟩ := X
  have hKn := hw.1.1 ci _ (cl_at hci)
  refine W.newcK hx hb hown (hG _ (inG_m h1)) (hG _ (inG_m h2)) (hG _ (inG_m h3)) rfl hd hc hs hKn.2.1 hw.2.2.2.2.1 fun H1 kC hkC e1 z1 o1 => ?_
  refine kk H1 (WC_push hw hl z1 o1 ?_)
  rw [encC_c rfl]
  refine ⟨_, cl_at hci, (u_born (fTy ci) hG (ly_g hci) hKn hkC e1 (fTy_ok hci)).to (fun j hj => ?_)⟩
  rw [dflt_ok ci hci j hj]
  have hv : vp_V ((List.range (nfld ci)).map (fvalC g (10 + ci, List.replicate (nfld ci) 0, List.replicate (nfld ci) none) ci)) j = fvalC g (10 + ci, List.replicate (nfld ci) 0, List.replicate (nfld ci) none) ci j := by
    unfold vp_V
    rw [List.getD_eq_getElem?_getD, List.getElem?_map, List.getElem?_range hj]
    rfl
  show _ = vp_V ((List.range (nfld ci)).map (fvalC g (10 + ci, List.replicate (nfld ci) 0, List.replicate (nfld ci) none) ci)) j
  rw [hv]
  unfold fvalC
  have e0 : (List.replicate (nfld ci) (0 : Int)).getD j 0 = 0 := by
    rw [List.getD_eq_getElem?_getD, List.getElem?_replicate]; split <;> rfl
  have e1 : (List.replicate (nfld ci) (none : Option Nat)).getD j none = none := by
    rw [List.getD_eq_getElem?_getD, List.getElem?_replicate]; split <;> rfl
  show _ = (match fknd ci j with
    | 2 => Value.long (i64 ((List.replicate (nfld ci) (0 : Int)).getD j 0))
    | 3 => va_rf (((List.replicate (nfld ci) (none : Option Nat)).getD j none).map g.2.2)
    | _ => Value.int (i32 ((List.replicate (nfld ci) (0 : Int)).getD j 0)))
  rw [e0, e1]
  split <;> rfl
theorem rep_get (n j : Nat) : (List.replicate n (0 : Int)).getD j 0 = 0 := by
  rw [List.getD_eq_getElem?_getD, List.getElem?_replicate]; split <;> rfl
theorem repN_get (n j : Nat) : (List.replicate n (none : Option Nat)).getD j none = none := by
  rw [List.getD_eq_getElem?_getD, List.getElem?_replicate]; split <;> rfl
/-- a new row of ints, of booleans, of objects -/
theorem ct_newi {H : Heap} {locs : List Loc} {cs : CWd} {pc : Nat} {x : Int} {mls : Array Slot} {rest : List Value} (X : CtxC p R s m args meth c k) (hw : WC g base cs s H locs) (hd : decode (cCc k) pc = .ok (.newarray .int, 2)) (h1 : inG (.arrayClass .int) = true) (hx0 : 0 ≤ x) (hx1 : x < 1000) (hl : cs.length < 104) (hc : cells + 1 ≤ R.cells) (hs : slots + x.toNat ≤ R.slots)
    (kk : ∀ H' : Heap, WC g base (cs ++ [(0, List.replicate x.toNat 0, [])]) s H' locs → W p l e R s m args below meth c H' locs (cells + 1) (slots + x.toNat) Z (F0 m (pc + 2) mls (.ref (base + cs.length) :: rest))) : W p l e R s m args below meth c H locs cells slots Z (F0 m pc mls (.int (i32 x) :: rest)) := by
  obtain ⟨hx, hb, -, hown, hG, hN, -⟩ := X
  have h32 : in32 x := ⟨by omega, by omega⟩
  refine va_newaK (atype := .int) hx hb (hG _ (inG_m h1)) rfl hd rfl (fun q => by have q : i32 x < i32 0 := q; rw [i32_lt h32 in32_0] at q; omega) (i32_clamp hx0 h32) (by show x.toNat * 4 ≤ _; omega) hc hs hw.2.2.2.2.1 fun H1 cA e1 z1 o1 hA hf => ?_
  refine kk H1 (WC_push hw hl z1 o1 ?_)
  have hcA : cA = g.2.1.1 := Option.some.inj (hf.symm.trans (hw.1.2 0 _ rfl).2)
  subst hcA
  show H1[base + cs.length]? = some (vp_cell _ (_, .inl _))
  rw [e1, vp_cell_i]
  show _ = some (arrV _ (List.replicate x.toNat (0 : Int)).length _)
  rw [List.length_replicate]
  congr 2
  funext j
  show _ = Value.int (i32 ((List.replicate x.toNat (0 : Int)).getD j 0))
  rw [rep_get]
  rfl
theorem ct_newz {H : Heap} {locs : List Loc} {cs : CWd} {pc : Nat} {x : Int} {mls : Array Slot} {rest : List Value} (X : CtxC p R s m args meth c k) (hw : WC g base cs s H locs) (hd : decode (cCc k) pc = .ok (.newarray .boolean, 2)) (h1 : inG (.arrayClass .boolean) = true) (hx0 : 0 ≤ x) (hx1 : x < 1000) (hl : cs.length < 104) (hc : cells + 1 ≤ R.cells) (hs : slots + x.toNat ≤ R.slots)
    (kk : ∀ H' : Heap, WC g base (cs ++ [(1, List.replicate x.toNat 0, [])]) s H' locs → W p l e R s m args below meth c H' locs (cells + 1) (slots + x.toNat) Z (F0 m (pc + 2) mls (.ref (base + cs.length) :: rest))) : W p l e R s m args below meth c H locs cells slots Z (F0 m pc mls (.int (i32 x) :: rest)) := by
  obtain ⟨hx, hb, -, hown, hG, hN, -⟩ := X
  have h32 : in32 x := ⟨by omega, by omega⟩
  refine va_newaK (atype := .boolean) hx hb (hG _ (inG_m h1)) rfl hd rfl (fun q => by have q : i32 x < i32 0 := q; rw [i32_lt h32 in32_0] at q; omega) (i32_clamp hx0 h32) (by show x.toNat * 1 ≤ _; omega) hc hs hw.2.2.2.2.1 fun H1 cA e1 z1 o1 hA hf => ?_
  refine kk H1 (WC_push hw hl z1 o1 ?_)
  have hcA : cA = g.2.1.2.1 := Option.some.inj (hf.symm.trans (hw.1.2 1 _ rfl).2)
  subst hcA
  show H1[base + cs.length]? = some (vp_cell _ (_, .inl _))
  rw [e1, vp_cell_i]
  show _ = some (arrV _ (List.replicate x.toNat (0 : Int)).length _)
  rw [List.length_replicate]
  congr 2
  funext j
  show _ = Value.int (i32 ((List.replicate x.toNat (0 : Int)).getD j 0))
  rw [rep_get]
  rfl
theorem ct_newq {H : Heap} {locs : List Loc} {cs : CWd} {pc v t : Nat} {x : Int} {C : String} {mls : Array Slot} {rest : List Value} (X : CtxC p R s m args meth c k) (hw : WC g base cs s H locs) (hC : (t = 2 ∧ C = "OddShoes$Person") ∨ (t = 3 ∧ C = "OddShoes$Valley")) (hd : decode (cCc k) pc = .ok (.anewarray v, 3)) (h1 : inG (.classLink (cn k) v C) = true) (hx0 : 0 ≤ x) (hx1 : x < 1000) (hl : cs.length < 104) (hc : cells + 1 ≤ R.cells) (hs : slots + x.toNat ≤ R.slots)
    (kk : ∀ H' : Heap, WC g base (cs ++ [(t, [], List.replicate x.toNat none)]) s H' locs → W p l e R s m args below meth c H' locs (cells + 1) (slots + x.toNat) Z (F0 m (pc + 3) mls (.ref (base + cs.length) :: rest))) : W p l e R s m args below meth c H locs cells slots Z (F0 m pc mls (.int (i32 x) :: rest)) := by
  obtain ⟨hx, hb, -, hown, hG, hN, -⟩ := X
  have h32 : in32 x := ⟨by omega, by omega⟩
  have hcl := i32_clamp hx0 h32
  have hov : va_AO C s := by
    rcases hC with ⟨-, rfl⟩ | ⟨-, rfl⟩
    · exact hw.2.2.2.2.2.2.2.1
    · exact hw.2.2.2.2.2.2.2.2
  refine W.anew hx hb hown (hG _ (inG_m h1)) (va_AO.use hov) rfl hd rfl (fun q => by have q : i32 x < i32 0 := q; rw [i32_lt h32 in32_0] at q; omega) (by rw [hcl]; omega) hc (by rw [hcl]; exact hs) fun cA kA comp f1 f2 f3 f4 => ?_
  rw [hcl]
  have hsz := hw.2.2.2.2.1
  generalize hH1 : H.push ({ cls := cA, slots := Array.replicate x.toNat .null, vm := .none } : Cell) = H1
  have z1 : H1.size = base + cs.length + 1 := by rw [← hH1, Array.size_push, hsz]
  have e1 : H1[base + cs.length]? = some (arrV cA x.toNat (fun _ => .null)) := by rw [← hH1, ← hsz, Array.getElem?_push_size, ← arrV_new]
  have o1 : ∀ q : Nat, q < base + cs.length → H1[q]? = H[q]? := fun q hq => by rw [← hH1, Array.getElem?_push, if_neg (by omega)]
  rw [hsz]
  refine kk H1 (WC_push hw hl z1 o1 ?_)
  have hfin : ∀ c0, cA = c0 → H1[base + cs.length]? = some (vp_cell c0 ((List.replicate x.toNat (none : Option Nat)).length, .inr (.inr (.inr (.inr (fun j => ((List.replicate x.toNat (none : Option Nat)).getD j none).map g.2.2)))))) := by
    intro c0 hc0
    subst hc0
    rw [e1, vp_cell_q, List.length_replicate]
    congr 2
    funext j
    rw [repN_get]
    rfl
  rcases hC with ⟨rfl, rfl⟩ | ⟨rfl, rfl⟩
  · rw [encC_2 rfl]
    obtain ⟨-, kA', comp', q1, q2, q3, q4⟩ := hw.1.2 2 _ rfl
    exact hfin _ (Option.some.inj (f1.symm.trans q4))
  · rw [encC_3 rfl]
    obtain ⟨-, kA', comp', q1, q2, q3, q4⟩ := hw.1.2 3 _ rfl
    exact hfin _ (Option.some.inj (f1.symm.trans q4))
/-- a field -/
theorem ct_put {H : Heap} {locs : List Loc} {cs : CWd} {pc v kk a : Nat} {cc cc' : CCell} {w : Value} {mls : Array Slot} {rest : List Value} (X : CtxC p R s m args meth c k) (hk12 : k < 12) (hw : WC g base cs s H locs) (hd : decode (cCc k) pc = .ok (.putfield v, 3)) (hkk : kk < nfld k) (h1 : inG (.fieldLink (cn k) v (cn k) ((fT k) kk).2.1 ((fT k) kk).2.2.1) = true) (ha : cs[a]? = some cc) (ht : cc.1 = 10 + k) (hn : narrow (fTy k kk) w = w) (hf : fits (fTy k kk) w = true) (henc : encC g cc' = .inr (k, ((List.range (nfld k)).map (fvalC g cc k)).set kk w))
    (kn : ∀ (H' : Heap) (locs' : List Loc), WC g base (cs.set a cc') s H' locs' → W p l e R s m args below meth c H' locs' cells slots Z (F0 m (pc + 3) mls rest)) : W p l e R s m args below meth c H locs cells slots Z (F0 m pc mls (w :: .ref (g.2.2 a) :: rest)) := by
  obtain ⟨hx, hb, -, hown, hG, hN, -, -, -, -, hin⟩ := X
  have ⟨w1, w2, w3, w4, w5, w6, w7, w8, w9⟩ := hw
  have hat := wsC_at g cs ha
  rw [encC_c ht] at hat
  have hal := (List.getElem?_eq_some_iff.mp ha).1
  have hsame : ∀ x, s.fieldFound? ((fT k) kk).1 ((fT k) kk).2.1 ((fT k) kk).2.2.1 = some x → s.fieldFound? (cn k) ((fT k) kk).2.1 ((fT k) kk).2.2.1 = some x := by
    rw [own_f k hk12 kk hkk]; exact fun _ h => h
  have hll : kk < ((List.range (nfld k)).map (fvalC g cc k)).length := by simpa using hkk
  have hap := va_apart (own := cn k) hG (ly_g hk12) (fTy k) (fTy_ok hk12) (nm_ok hk12) w1 (cl_at hk12)
  obtain ⟨r, hr1, cell, q1, q2, q3, q4⟩ := w2 a _ hat
  have hr : r = (cn k, fT k, nfld k) := Option.some.inj (hr1.symm.trans (cl_at hk12))
  subst hr
  obtain ⟨hS, hfc, kC, hkC, hkind⟩ := w1.1 k _ (cl_at hk12)
  obtain ⟨cf, kf, fi, f, hi, hsl⟩ := hS kk hkk
  have hst := (u_facts hfc hkC (u_lays hG (ly_g hk12) hkk) hi).1
  have hAa : base ≤ g.2.2 a := w3.2 a _ hat
  have fin : ∀ (H' : Heap), H'[g.2.2 a]? = some (cell.setSlot f.slot w) → H'.size = H.size → (∀ q, q ≠ g.2.2 a → H'[q]? = H[q]?) → W p l e R s m args below meth c H' (locs ++ [⟨g.2.2 a, f.slot⟩]) cells slots Z (F0 m (pc + 3) mls rest) := by
    intro H' e1 e2 e3
    rw [hsl] at e1
    refine kn H' _ (WC_set hw hal e2 ?_ ?_ (w4.put e2 e3 hAa))
    · rw [henc]
      exact w2.set w3 hat ⟨_, cl_at hk12, t_OB.to (V := updV (vp_V ((List.range (nfld k)).map (fvalC g cc k))) kk w) ⟨_, e1, q2, q3, t_set q4 hap hkk w⟩ (fun j _ => vp_updV_set hll w j)⟩ e3
    · exact w3.set hat
  have hlay := hG _ (ly_g hk12 _ (u_in_lay hkk))
  unfold u_lay at hlay
  by_cases hfin : ((fT k) kk).2.2.2 = true
  · rw [if_pos hfin] at hlay
    have hcf : m.cls = cf := by
      obtain ⟨_, _, c', _, _, _, -, -, hf', -, -, -, hown2, -⟩ := Cond.laysFinal_spec hlay
      have e1 : c' = cf := by have := hi.symm.trans hf'; simp at this; exact this.1.symm
      rw [own_f k hk12 kk hkk] at hown2
      rw [← e1]; exact Option.some.inj (hown.symm.trans hown2)
    have h6 := u_fits hfc hkC hkind (Or.inr hlay) hi (fTy_ok hk12 kk hkk) hn hf
    exact W.putFinK hx hb hown (hG _ (inG_m h1)) (hsame _ hi) hst hcf hin (by rw [q2]; exact h6) q1 q3 (by rw [hsl]; exact k2_hasslot (q4 kk hkk)) rfl rfl hd fin
  · rw [if_neg hfin] at hlay
    have h6 := u_store hfc hkC hkind hlay hi (fTy_ok hk12 kk hkk) hn hf
    exact W.putK hx hb (f := f) ⟨hown, hG _ (inG_m h1), ⟨_, _, _, hsame _ hi⟩, hst⟩ (by rw [q2]; exact h6) q1 q3 (by rw [hsl]; exact k2_hasslot (q4 kk hkk)) rfl rfl hd fin
/-- a place of a row of objects -/
theorem ct_ast1 {H : Heap} {locs : List Loc} {cs : CWd} {pc a y ci t0 : Nat} {x : Int} {cc dd cc' : CCell} {cA : ClassId} {mls : Array Slot} {rest : List Value} (X : CtxC p R s m args meth c k) (hw : WC g base cs s H locs) (hd : decode (cCc k) pc = .ok (.aastore, 1)) (hci : ci < 12) (ha : cs[a]? = some cc) (hy : cs[y]? = some dd) (hdd : dd.1 = 10 + ci) (hx0 : 0 ≤ x) (hx1 : x < (cc.2.2.length : Int)) (h32 : in32 x)
    (he : encC g cc = .inl (cA, cc.2.2.length, .inr (.inr (.inr (.inr (fun j => (cc.2.2.getD j none).map g.2.2)))))) (he' : encC g cc' = .inl (cA, cc.2.2.length, .inr (.inr (.inr (.inr (fun j => ((cc.2.2.set x.toNat (some y)).getD j none).map g.2.2)))))) (ht : (tysO g)[t0]? = some (cA, .object (cn ci)))
    (kn : ∀ (H' : Heap) (locs' : List Loc), WC g base (cs.set a cc') s H' locs' → W p l e R s m args below meth c H' locs' cells slots Z (F0 m (pc + 1) mls rest)) : W p l e R s m args below meth c H locs cells slots Z (F0 m pc mls (.ref (g.2.2 y) :: .int (i32 x) :: .ref (g.2.2 a) :: rest)) := by
  obtain ⟨hx, hb, -, hown, hG, hN, -⟩ := X
  have ⟨w1, w2, w3, w4, w5, w6, w7, w8, w9⟩ := hw
  have hat := wsC_at g cs ha
  have hyt := wsC_at g cs hy
  have hal := (List.getElem?_eq_some_iff.mp ha).1
  rw [he] at hat
  rw [encC_c hdd] at hyt
  obtain ⟨r', hr', cellV, g1, g2, g3, -⟩ := w2 y _ hyt
  have hcls := (w1.1 ci _ (cl_at hci)).2
  obtain ⟨kA, comp, k1, k2, k3, -⟩ := (w1.2 t0 _ ht).2
  have hcomp : comp = g.1.1 ci := Option.some.inj (k3.symm.trans hcls.1)
  subst hcomp
  obtain ⟨kC, hkC, -⟩ := hcls.2
  have hlt : (i32 x).toNatClampNeg < cc.2.2.length := by rw [i32_clamp hx0 h32]; omega
  have h0 : ¬ i32 x < 0 := fun q => by have q : i32 x < i32 0 := q; rw [i32_lt h32 in32_0] at q; omega
  refine W.aast hx hb (w2 a _ hat) (fun q h => by cases h) (fun h => by cases h) k1 k2 rfl hkC ⟨h0, by show _ < (arrV _ _ _).slots.size; rw [arrV_size]; exact hlt⟩ g1 (fun q h => by rw [g3] at h; cases h) (by rw [g2]; exact hkC) (by rw [g2]; exact va_assign hcls) rfl rfl hd fun H1 e z oq => ?_
  refine kn H1 _ (WC_set hw hal z ?_ (w3.set hat) (w4.put z oq (w3.2 a _ hat)))
  rw [he']
  refine w2.set w3 hat ?_ oq
  show H1[g.2.2 a]? = some (vp_cell _ _)
  rw [e]
  show some (Cell.setSlot (vp_cell _ _) _ _) = _
  rw [vp_cell_q, vp_cell_q, arrV_store]
  congr 2
  funext q
  rw [i32_clamp hx0 h32]
  by_cases hq : q = x.toNat
  · subst hq
    rw [getD_set_eq (by omega)]
    simp [updV, va_rf]
  · rw [getD_set_ne hq]
    simp [updV, hq]
end CtorM
