/-! THE CLAIM OUT OF ONE WALK OF THE LAW'S BODY. Your part is whole_start (and what it stands on); all else here is the same for every law, but numbers. -/
def R_law : String := "OddShoesLaw"
def lw_P (b : Addr) (xs : List Int32) (args : Array Value) (s : State) : Prop := args = #[.ref b] ∧ s.IntsAt b xs ∧ xs.length ≤ 384 ∧ (Jvm.Cond.and given_1 narrow_1).before args s = true
def lw_Q (_ : Array Value) (s : State) (o : Outcome) (t : State) : Prop := o = .returned (some (.int 1)) ∧ Framed s o t [] 600000 7302250
def lw_Z (below : List Frame) (a : Array Value) (s : State) : State → Prop := fun t => ∃ o, t.status = .running ∧ Ended t below o ∧ lw_Q a s o t
/-- the law's own end, with 1 on the stack, nothing written that was there before, its room as the claim has it -/
theorem lw_ret {p : Program} {l : Launch} {e : Env} {s : State} {m : MethodId} {below : List Frame} {meth : Method} {c : Code} {b : Nat} (hx : p.tables.exec = Jvm.exec) (hb : c.code = code) (hr : meth.sig.returnType = ret) (hlocks : meth.locks = false) {pc : Nat} {H : Heap} {ls : Array Slot} (hdg : decode code pc = .ok (.ireturn, 1)) : W p l e room_1 s m #[Value.ref b] below meth c H [] 600000 7302250 (lw_Z below #[Value.ref b] s) (F0 m pc ls [.int 1]) := by
  intro T hT X
  obtain ⟨fs, hret, hrun, hended, hW, hframe⟩ := X.leave (v := some (.int 1)) (hlocks := hlocks) (fun h => by rw [hr] at h; cases h)
  have hmeth' : T.vm.method? m = some meth := X.method'
  refine ⟨T.setFrames fs, ?_, .returned (some (.int 1)), hrun, hended, rfl, ⟨_, rfl⟩, hW, hframe⟩
  jvm_step X.here [X.here.top, hx, hb, hdg, hmeth', hr, ret, narrow_b1]
  (try refine ⟨rfl, ?_⟩); (try refine ⟨rfl, ?_⟩)
  first | (intro acts; rw [hret _ acts rfl rfl rfl]) | rw [hret _ _ rfl rfl rfl]
  exact Steps.refl _
/-- what holds at the law's entry: the machine, the code, the tables' words (any of lw_tbl by 'hts w (by decide +kernel)'), the script of L ints xs at the cell b, what the Statement gives of the start (any of its parts by flat_of_before) -/
def lw_At (p : Program) (s : State) (m : MethodId) (meth : Method) (c : Code) (b L : Nat) (xs : Nat → Int32) : Prop :=
  p.tables.exec = Jvm.exec ∧ c.code = code ∧ meth.sig.returnType = ret ∧ c.maxLocals = 4 ∧ s.vm.findClass R_law = some m.cls ∧ (∀ w ∈ lw_tbl, w.before #[Value.ref b] s = true) ∧ va_X b L xs s s.heap ∧ b < s.heap.size ∧ meth.locks = false ∧ (Jvm.Cond.and given_1 narrow_1).before #[Value.ref b] s = true
/-- the law's loop, from its first round on, answers true -/
def LawX : Prop := ∀ (L : Nat) (xs : Nat → Int32), L ≤ 384 → X L 213 18 [some (xR 104), some (xR 0), some (xR 75), some (xI 0)] [] (sg0 xs) (fun r _ => r = some (xI 1))
set_option maxHeartbeats 4000000 in
set_option maxRecDepth 100000 in
theorem whole_open (hLX : LawX) {p : Program} {e : Env} {s : State} {m : MethodId} {below : List Frame} {meth : Method} {c : Code} (l : Launch) {b L : Nat} {xs : Nat → Int32} (hL : L ≤ 384) (C0 : lw_At p s m meth c b L xs) : W p l e room_1 s m #[Value.ref b] below meth c s.heap [] 0 0 (lw_Z below #[Value.ref b] s) (entryFrame m ([Value.ref b] : List Value).toArray 4) := by
  obtain ⟨hx, hb, hr, hml, hown, hts, hX, hbl, hlocks, hgv⟩ := id C0
  have hG : ∀ w ∈ tblG, w.before #[Value.ref b] s = true := fun w h => hts w (List.mem_filter.mp h).1
  have hN : ∀ w ∈ tblN, va_Nw w s := fun w h => va_Nw.of (by
    have := (List.mem_filter.mp h).2
    cases w <;> first | rfl | (simp [isNest] at this)) (hts w (List.mem_filter.mp h).1)
  have hst := List.all_eq_true.mp st_w
  have hmem : ∀ (b : Bool) (i : Nat), [inG (.classLink RL 7 (cn 10)), inG (.instantiable (cn 10) (nfld 10)), inG (.initialized (cn 10)), inG (.methodLink RL 9 (cY 10)), inG (.instanceMethod (cY 10)), inG (.classLink RL 10 (cn 11)), inG (.instantiable (cn 11) (nfld 11)), inG (.initialized (cn 11)), inG (.methodLink RL 12 (cY 11)), inG (.instanceMethod (cY 11)), inG (.arrayClass .int), inG (.arrayClass .boolean)][i]? = some b → b = true := fun b i h => hst b (List.mem_of_getElem? h)
  -- the classes
  have hkn : ∀ k, ∃ (q : ClassId × (Nat → Nat)), k < 12 → u_Kn s (cn k) (fT k) (nfld k) q.1 q.2 := by
    intro k
    by_cases hk : k < 12
    · obtain ⟨c0, iS0, h0⟩ := u_known (C := cn k) (T := fT k) (N := nfld k) (n := nfld k) hG (ly_g hk) (hG _ (inG_m (st_i k hk)))
      exact ⟨(c0, iS0), fun _ => h0⟩
    · exact ⟨(0, fun _ => 0), fun h => absurd h hk⟩
  let dQ : Nat → ClassId × (Nat → Nat) := fun k => Classical.choose (hkn k)
  have hdQ : ∀ k, k < 12 → u_Kn s (cn k) (fT k) (nfld k) (dQ k).1 (dQ k).2 := fun k => Classical.choose_spec (hkn k)
  -- the rows' classes
  obtain ⟨cI, kI, mI, i1, i2, i3⟩ := Cond.arrayClass_spec (hG _ (inG_m (hmem _ 10 rfl)))
  obtain ⟨cZ, kZ, mZ, z1, z2, z3⟩ := Cond.arrayClass_spec (hG _ (inG_m (hmem _ 11 rfl)))
  obtain ⟨mP, cP, kP, p1, -, p2, p3, p4⟩ := Cond.arrayOver_spec (hts _ st_ao.1)
  obtain ⟨mV, cV, kV, v1, -, v2, v3, v4⟩ := Cond.arrayOver_spec (hts _ st_ao.2)
  obtain ⟨g, hg⟩ : ∃ g : GC, g = ((fun k => (dQ k).1, fun k => (dQ k).2), (cI, cZ, cP, cV), fun o => if o = 104 then b else s.heap.size + o) := ⟨_, rfl⟩
  have hgo : ∀ o, o < 104 → g.2.2 o = s.heap.size + o := fun o ho => by rw [hg]; exact if_neg (by omega)
  have hgb : g.2.2 104 = b := by rw [hg]; show (if (104 : Nat) = 104 then b else s.heap.size + 104) = b; exact if_pos rfl
  have hK : va_K g.1 vwCl (tysO g) s := by
    rw [hg]
    refine ⟨fun k q hq => ?_, fun k q hq => ?_⟩
    · have hk : k < 12 := (List.getElem?_eq_some_iff.mp hq).1
      rw [cl_at hk] at hq
      cases hq
      exact hdQ k hk
    · match k, hq with
      | 0, hq => cases hq; exact ⟨fun n z => ⟨fun k h => (by cases h), kI, i2, mI, i3⟩, i1⟩
      | 1, hq => cases hq; exact ⟨fun n z => ⟨fun k h => (by cases h), kZ, z2, mZ, z3⟩, z1⟩
      | 2, hq => cases hq; exact ⟨fun n z => ⟨fun k h => (by cases h), kP, p2, mP, p3⟩, kP, mP, p2, p3, p1, p4⟩
      | 3, hq => cases hq; exact ⟨fun n z => ⟨fun k h => (by cases h), kV, v2, mV, v3⟩, kV, mV, v2, v3, v1, v4⟩
      | k + 4, hq => simp [tysO] at hq
  have hw0 : WC g s.heap.size [] s s.heap [] := ⟨hK, fun k q h => by simp [wsC] at h, ⟨fun i j x y h => by simp [wsC] at h, fun k q h => by simp [wsC] at h⟩, va_S.rf, rfl, hgo, Nat.le_refl _, va_AO.of (hts _ st_ao.1), va_AO.of (hts _ st_ao.2)⟩
  have rm := st_room
  have tt := st_tot
  have hl := lv_entry ([.ref b]) (n := 4) (Nat.le_of_ble_eq_true rfl)
  rw [lg_entry_eq]
  generalize (lg_sl ([.ref b]) ++ List.replicate (4 - (lg_sl ([.ref b])).length) Slot.unset).toArray = ls at hl ⊢
  have hl : lv_has ls 4 [(0, .ref b)] := hl
  refine st_new (ci := 10) hx hb hown hG hw0 (by omega) dl_0 (hmem _ 0 rfl) (hmem _ 1 rfl) (hmem _ 2 rfl) (by simp) (by decide) (by decide) (fun H1 hw1 => ?_)
  refine lv_dup hx hb dl_3 rfl ?_
  have e0 : Value.ref (s.heap.size + ([] : CWd).length) = .ref (g.2.2 0) := by rw [hgo 0 (by omega)]; rfl
  rw [e0]
  have hw1 : WC g s.heap.size [(20, List.replicate 11 0, List.replicate 11 none)] s H1 [] := hw1
  refine st_call (kc := 10) (a := 0) (d1 := 74) (d2 := 1361) hx hb hml hl.1 hown hG hN hw1 (by omega) dl_4 (hmem _ 3 rfl) (hmem _ 2 rfl) (hmem _ 4 rfl) csX_ok.1 (by rw [csX_ok.2]; rfl) (by rw [tt.1, tt.2.2]) rm.2.2.1 rm.2.2.2.1 (by decide) (by decide) (Nat.le_of_ble_eq_true rfl) (fun H2 locs2 hw2 => ?_)
  refine lv_astore_n (lv' := [(1, .ref (g.2.2 0)), (0, .ref b)]) hx hb dl_7 rfl hl (by decide) rfl (fun ls hl => ?_)
  refine st_new (ci := 11) hx hb hown hG hw2 (by omega) dl_8 (hmem _ 5 rfl) (hmem _ 6 rfl) (hmem _ 7 rfl) (by rw [csX_ok.2]; omega) (by decide) (by decide) (fun H3 hw3 => ?_)
  refine lv_dup hx hb dl_11 rfl ?_
  have e1 : Value.ref (s.heap.size + csX.length) = .ref (g.2.2 75) := by rw [hgo 75 (by omega), csX_ok.2]
  rw [e1]
  have hw3 : WC g s.heap.size (csX ++ [(21, List.replicate 42 0, List.replicate 42 none)]) s H3 locs2 := hw3
  refine st_call (kc := 11) (a := 75) (d1 := 28) (d2 := 1254) hx hb hml hl.1 hown hG hN hw3 (by omega) dl_12 (hmem _ 8 rfl) (hmem _ 7 rfl) (hmem _ 9 rfl) csM_ok.1 (by rw [csM_ok.2, List.length_append, csX_ok.2]; rfl) (by rw [tt.2.1, totS_push, tt.1]; rfl) rm.2.2.2.2.1 rm.2.2.2.2.2 (by decide) (by decide) (Nat.le_of_ble_eq_true rfl) (fun H4 locs4 hw4 => ?_)
  refine lv_astore_n (lv' := [(2, .ref (g.2.2 75)), (1, .ref (g.2.2 0)), (0, .ref b)]) hx hb dl_15 rfl hl (by decide) rfl (fun ls hl => ?_)
  refine lv_iconst (v := 0) hx hb dl_16 (by decide) ?_
  refine lv_istore_n (lv' := [(3, .int 0), (2, .ref (g.2.2 75)), (1, .ref (g.2.2 0)), (0, .ref b)]) hx hb dl_17 rfl hl (by decide) rfl (fun ls hl => ?_)
  obtain ⟨-, w2, w3, w4, w5, -⟩ := hw4
  have hA : ¬ (s.heap.size ≤ g.2.2 104) := by rw [hgb]; omega
  have hD : va_D (fun q => s.heap.size ≤ q) (wsO g (sg0 xs)) := by
    have at' : ∀ (i : Nat) (q : Nat × va_E), (wsO g (sg0 xs))[i]? = some q → i < 104 ∧ q.1 = s.heap.size + i := by
      intro i q hq
      have hi : i < 104 := by
        have := (List.getElem?_eq_some_iff.mp hq).1
        simpa [wsO] using this
      rw [wsO_at g _ hi] at hq
      exact ⟨hi, by rw [← Option.some.inj hq]; exact hgo i hi⟩
    refine ⟨fun i j x y hx hy hxy => ?_, fun i q hq => ?_⟩
    · have := (at' i x hx).2
      have := (at' j y hy).2
      omega
    · have := (at' i q hq).2
      show s.heap.size ≤ q.1
      omega
  have hXX : va_X (g.2.2 104) L (fun j => i32 (sg0 xs 104 j)) s s.heap := by
    rw [hgb]
    have : (fun j => i32 (sg0 xs 104 j)) = xs := funext fun j => i32_of (xs j)
    rw [this]
    exact hX
  have hPP := X_PP (hLX L xs hL) l g (fun q => s.heap.size ≤ q)
  have hlv : lv_has ls 4 (lvl g [some (xR 104), some (xR 0), some (xR 75), some (xI 0)]) := by
    refine ⟨hl.1, hl.2.1, fun q hq => hl.2.2 q ?_⟩
    have hq : q ∈ [(0, Value.ref (g.2.2 104)), (1, .ref (g.2.2 0)), (2, .ref (g.2.2 75)), (3, .int 0)] := hq
    rw [hgb] at hq
    simp only [List.mem_cons, List.not_mem_nil, or_false] at hq ⊢
    rcases hq with h | h | h | h
    · exact Or.inr (Or.inr (Or.inr h))
    · exact Or.inr (Or.inr (Or.inl h))
    · exact Or.inr (Or.inl h)
    · exact Or.inl h
  refine hPP p e room_1 s m #[Value.ref b] below meth c H4 locs4 _ _ (lw_Z below #[Value.ref b] s) ls ⟨hx, hb, hml, hown, hG, hN, rm.1, rm.2.1, hr, hlocks⟩ hlv ⟨rfl, fun v hv => by simp at hv, fun i v hi => ?_⟩ ⟨hK, wsO_of w2, hD, w4, hXX, by rw [hgb]; exact hbl, hA, rng0 xs, by omega⟩ (by decide) (by decide) ?_
  · match i, hi with
    | 0, hi => cases hi; exact trivial
    | 1, hi => cases hi; exact trivial
    | 2, hi => cases hi; exact trivial
    | 3, hi => cases hi; exact in32_0
    | i + 4, hi => cases hi
  · intro r σ' H' locs' pc' mls' vs hq hw' hret
    subst hq
    rcases hret with ⟨x, h1, rfl, -, hd, -⟩ | ⟨x, h1, -⟩ | ⟨x, h1, -⟩ | ⟨h1, -⟩
    · cases h1
      refine va_forget (fun q hq => hw'.2.2.2.1.2.2 q hq) ?_
      refine W.widen (k := 600000) (n := 7302250) (by decide) (by decide) ?_
      exact lw_ret hx hb hr hlocks hd
    · cases h1
    · cases h1
    · cases h1
