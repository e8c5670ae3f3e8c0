def PccC (g : GC) (base : Nat) (cs : CWd) (av : List Value) : Array Value → State → Prop := fun v U =>
  v = av.toArray ∧ va_K g.1 vwCl (tysO g) U ∧ va_P g.1 vwCl (wsC g cs) U.heap ∧ va_D (fun q => base ≤ q) (wsC g cs) ∧ U.heap.size = base + cs.length ∧ va_AO "OddShoes$Person" U ∧ va_AO "OddShoes$Valley" U ∧ ∀ w ∈ tblN, va_Nw w U
def QccC (g : GC) (base : Nat) (cs' : CWd) : Array Value → State → Outcome → State → Prop := fun _ st o t =>
  o = .returned none ∧ va_P g.1 vwCl (wsC g cs') t.heap ∧ va_D (fun q => base ≤ q) (wsC g cs') ∧ t.heap.size = base + cs'.length ∧ va_F (fun q => base ≤ q) st t
theorem PccC_blind {g : GC} {base : Nat} {cs : CWd} {av : List Value} : FrameBlind (PccC g base cs av) := by
  intro a U f mk h
  obtain ⟨h1, h2, h3, h4, h5, h6, h7, h8⟩ := h
  exact ⟨h1, va_K.moved (u := U) (U := U.calling f mk a) (Vm.Alike.refl U.vm) h2, h3, h4, h5, va_AO.moved (u := U) (U := U.calling f mk a) (Vm.Alike.refl U.vm) h6, va_AO.moved (u := U) (U := U.calling f mk a) (Vm.Alike.refl U.vm) h7, fun w hw => va_Nw.same (by
    have := (List.mem_filter.mp hw).2
    cases w <;> first | rfl | (simp [isNest] at this)) (u := U) (U := U.calling f mk a) rfl (h8 w hw)⟩
theorem c_cls : ∀ k, k < 12 → (cY k).cls = cn k := by decide +kernel
theorem c_nm : ∀ k, k < 12 → (cY k).name = "<init>" := by decide +kernel
theorem c_plain : ∀ k, k < 12 → plainName (cY k).cls = true := by decide +kernel
theorem c_no1 : ∀ k, k < 12 → (cY k).cls ≠ "java/lang/invoke/MethodHandle" := by decide +kernel
theorem c_no2 : ∀ k, k < 12 → (cY k).cls ≠ "java/lang/invoke/VarHandle" := by decide +kernel
theorem c_par : ∀ k, k < 12 → (parseMethodDescriptor (cY k).desc).map (fun d => d.parameters.length) = some 0 := by decide +kernel
theorem c_ml : ∀ k, k < 12 → 1 ≤ cML k := by decide +kernel
theorem goodC_ws {k : Nat} (hk : k < 12) : GoodIn tblG (cCw k :: tblG) := by
  intro w hw
  rcases List.mem_cons.mp hw with rfl | h
  · exact ⟨cC_g k hk, good_of_word rfl⟩
  · exact ⟨h, good_of_word (List.mem_filter.mp h).2⟩
theorem PC_met {l : Launch} {g : GC} {base k a : Nat} {cs cs' : CWd} {d1 d2 : Nat} (h : PC l g base k 0 (entL (cML k) [xR a]) [] cs cs') (hk : k < 12) (h1 : cs'.length = cs.length + d1) (h2 : totS cs' = totS cs + d2) (hgo : ∀ o, o < 104 → g.2.2 o = base + o) :
    Met l (cY k) (cCw k :: tblG) { frames := cFr k, cells := d1, slots := d2, locals := cLo k } (PccC g base cs [trV g (xR a)]) (QccC g base cs') d1 d2 (fun q => base ≤ q) := by
  refine Met.ofW (cc := cCc k) (maxL := cML k) (ret := none) (c_plain k hk) rfl ?_
  intro p e s m args below meth c s₁ B hml hv
  obtain ⟨rfl, q1, q2, q3, q4, q5, q6, q7⟩ := hv
  have hts := atoms_spec (ws := cCw k :: tblG) B.pre
  have hown : s.vm.findClass (cY k).cls = some m.cls := findClass_of_methodNamed B.named
  have hlocks := B.notSynchronized
  have hin : meth.name = "<init>" := by rw [(name_of_methodNamed B.named B.method).1]; exact c_nm k hk
  rw [c_cls k hk] at hown
  rw [lg_entry_eq]
  have hc1 : cats [xR a] ≤ cML k := c_ml k hk
  refine h p e _ s m _ below meth c s.heap [] 0 0 d1 d2 _ _ ⟨B.exec, B.bytes, hml, hown, fun w hw => hts w (List.mem_cons_of_mem _ hw), q7, Nat.le_refl _, Nat.le_refl _, B.returns, hlocks, hin⟩ (lvl_ent hc1) ⟨entL_len _ _ hc1, fun v hv => by simp at hv, fun i v hi => ?_⟩ ⟨q1, q2, q3, va_S.rf, q4, hgo, by omega, q5, q6⟩ h1 h2 (by show 0 + d1 ≤ d1; omega) (by show 0 + d2 ≤ d2; omega) ?_
  · cases i with
    | zero => cases hi; exact trivial
    | succ i =>
      have hi : nth (List.replicate (cML k - 1) none) i = some v := hi
      rw [nth_rep] at hi; cases hi
  · intro H' locs' pc' mls' hw hd
    rw [Nat.zero_add, Nat.zero_add]
    obtain ⟨w1, w2, w3, w4, w5, -⟩ := hw
    exact W.vret B.exec B.bytes B.returns (fun t e1 _ => ⟨rfl, by rw [e1]; exact w2, w3, by rw [e1]; exact w5, w4.F e1⟩) w4.2.2 hd hlocks
theorem runC_PC (l : Launch) (g : GC) (base : Nat) : ∀ (f k pc : Nat) (ls : LSt) (st : List PV) (cs cs' : CWd), runC f k pc ls st cs = some cs' → PC l g base k pc ls st cs cs'
  | 0, k, pc, ls, st, cs, cs', h => by cases h
  | f + 1, k, pc, ls, st, cs, cs', h => by
    intro p e R s m args below meth c H locs cells slots d1 d2 Z mls X hl ho hw hd1 hd2 hcl hsl hret
    have ih := runC_PC l g base f
    have gr := cGrow_all f
    unfold runC at h
    split at h
    · cases h
    next i n aux z hins =>
    obtain ⟨hk12, hd, hok⟩ := insC_ok hins
    have hx := X.1
    have hb := X.2.1
    have hml := X.2.2.1
    have hown := X.2.2.2.1
    have hG := X.2.2.2.2.1
    have hN := X.2.2.2.2.2.1
    have hfr := X.2.2.2.2.2.2.1
    have hlo := X.2.2.2.2.2.2.2.1
    -- going on with the same cells
    have same : ∀ {pc' : Nat} {ls' : LSt} {st' : List PV} {mls' : Array Slot}, runC f k pc' ls' st' cs = some cs' → lv_has mls' (cML k) (lvl g ls') → okSC k ls' st' → W p l e R s m args below meth c H locs cells slots Z (F0 m pc' mls' (st'.map (trV g))) := fun h1 h2 h3 => ih _ _ _ _ _ _ h1 p e R s m args below meth c H locs cells slots d1 d2 Z _ X h2 h3 hw hd1 hd2 hcl hsl hret
    -- with a cell more
    have more : ∀ {pc' : Nat} {st' : List PV} {cc : CCell}, runC f k pc' ls (xR cs.length :: st') (cs ++ [cc]) = some cs' → okSC k ls st' → cs.length < 104 → cells + 1 ≤ R.cells ∧ slots + slC cc ≤ R.slots ∧ ∀ H' : Heap, WC g base (cs ++ [cc]) s H' locs → W p l e R s m args below meth c H' locs (cells + 1) (slots + slC cc) Z (F0 m pc' mls (.ref (base + cs.length) :: st'.map (trV g))) := by
      intro pc' st' cc h1 h3 hlt
      have g1 := gr _ _ _ _ _ _ h1
      rw [totS_push, List.length_append, List.length_singleton] at g1
      refine ⟨by omega, by omega, fun H' hw' => ?_⟩
      have := ih _ _ _ _ _ _ h1 p e R s m args below meth c H' locs (cells + 1) (slots + slC cc) (d1 - 1) (d2 - slC cc) Z mls X hl (okSC_cons h3 (v := xR cs.length) trivial) hw' (by rw [List.length_append, List.length_singleton]; omega) (by rw [totS_push]; omega) (by omega) (by omega) (by
        rw [show cells + 1 + (d1 - 1) = cells + d1 by omega, show slots + slC cc + (d2 - slC cc) = slots + d2 by omega]; exact hret)
      rw [← trO hw hlt]
      exact this
    -- with a cell written
    have wrote : ∀ {pc' a : Nat} {st' : List PV} {cc cc' : CCell}, runC f k pc' ls st' (cs.set a cc') = some cs' → okSC k ls st' → cs[a]? = some cc → slC cc' = slC cc → ∀ (H' : Heap) (locs' : List Loc), WC g base (cs.set a cc') s H' locs' → W p l e R s m args below meth c H' locs' cells slots Z (F0 m pc' mls (st'.map (trV g))) := by
      intro pc' a st' cc cc' h1 h3 ha hs H' locs' hw'
      exact ih _ _ _ _ _ _ h1 p e R s m args below meth c H' locs' cells slots d1 d2 Z mls X hl h3 hw' (by rw [List.length_set]; exact hd1) (by rw [totS_set ha hs]; exact hd2) hcl hsl hret
    have sl : ∀ (c : CCell) (a : Nat) (x : Int), slC (c.1, c.2.1.set a x, c.2.2) = slC c := by
      intro c a x; unfold slC; dsimp only; split <;> simp
    have sl2 : ∀ (c : CCell) (a : Nat) (y : Option Nat), slC (c.1, c.2.1, c.2.2.set a y) = slC c := by
      intro c a y; unfold slC; dsimp only; split <;> simp
    cases i with
    | aload_n v =>
      obtain rfl := of_decide_eq_true hok
      cases hv : nth ls v.val with
      | none => simp only [stepC, hv] at h; cases h
      | some u =>
        rcases u with x | x | x <;> simp only [stepC, hv, goC] at h <;> first | (cases h; done) | skip
        exact lv_aload_n hx hb hd rfl (lvl_R hl hv) (same h hl (okSC_cons ho (v := xR x) trivial))
    | iload_n v =>
      obtain rfl := of_decide_eq_true hok
      cases hv : nth ls v.val with
      | none => simp only [stepC, hv] at h; cases h
      | some u =>
        rcases u with x | x | x <;> simp only [stepC, hv, goC] at h <;> first | (cases h; done) | skip
        exact lv_iload_n hx hb hd rfl (lvl_I hl hv) (same h hl (okSC_cons ho (v := xI x) (ho.2.2 _ _ hv)))
    | iconst v => obtain ⟨rfl, rfl, h1, h2⟩ := of_decide_eq_true hok; exact lv_iconst hx hb hd rfl (same h hl (okSC_cons ho (v := xI _) ⟨h1, h2⟩))
    | bipush v => obtain ⟨rfl, h0, h1, h2⟩ := of_decide_eq_true hok; exact lv_bipush hx hb hd h0 (same h hl (okSC_cons ho (v := xI z) ⟨h1, h2⟩))
    | sipush v => obtain ⟨rfl, h0, h1, h2⟩ := of_decide_eq_true hok; exact lv_sipush hx hb hd h0 (same h hl (okSC_cons ho (v := xI z) ⟨h1, h2⟩))
    | lconst v =>
      obtain ⟨rfl, h0⟩ := of_decide_eq_true hok
      subst h0
      have hv := v.isLt
      exact lv_lconst hx hb hd (i64_nat _).symm (same h hl (okSC_cons ho (v := xL _) (show in64 _ from ⟨by omega, by omega⟩)))
    | istore_n v =>
      obtain ⟨rfl, h0⟩ := of_decide_eq_true hok
      rcases st with _ | ⟨x | x | x, r⟩ <;> first | (cases h; done) | skip
      exact lv_istore_n hx hb hd rfl hl h0 rfl (fun mls' h' => same h (lvl_st1 (v := xI x) (by rw [ho.1]; exact h0) rfl h') (okSC_stn (okSC_tl ho) (okSC_hd ho)))
    | iinc v cc =>
      obtain ⟨rfl, rfl, h0⟩ := of_decide_eq_true hok
      cases hv : nth ls v with
      | none => simp only [stepC, hv] at h; cases h
      | some u =>
        rcases u with x | x | x <;> simp only [stepC, hv, goC] at h <;> first | (cases h; done) | skip
        obtain ⟨j, hj⟩ := List.getElem?_of_mem (lvl_mem (g := g) (ls := ls) (q := (v, .int (i32 x))).mpr (by show lvV g ls v = _; unfold lvV; rw [hv]))
        exact lv_iinc hx hb hd hl hj (i32_add x z).symm h0 rfl (fun mls' h' => same h (lvl_st1 (v := xI (w32 (x + z))) (by rw [ho.1]; exact h0) rfl h') (okSC_stn ho (v := xI (w32 (x + z))) (in32_w _)))
    | dup =>
      obtain rfl := of_decide_eq_true hok
      rcases st with _ | ⟨x | x | x, r⟩ <;> first | (cases h; done) | skip
      exact lv_dup hx hb hd rfl (same h hl (okSC_cons ho (okSC_hd ho)))
    | newarray t =>
      cases t <;> first | (cases h; done) | skip
      · have hok : (decide (n = 2) && inG (.arrayClass .boolean)) = true := hok
        rw [Bool.and_eq_true, decide_eq_true_eq] at hok
        obtain ⟨rfl, h1⟩ := hok
        rcases st with _ | ⟨x | x | x, r⟩ <;> first | (cases h; done) | skip
        by_cases hb0 : 0 ≤ x ∧ x < 1000
        · by_cases hlt : cs.length < 104
          · simp only [stepC, newC, goC, if_pos hb0, if_pos hlt] at h
            obtain ⟨m1, m2, m3⟩ := more h (okSC_tl ho) hlt
            simp only [slC, List.length_replicate] at m2 m3
            exact ct_newz X hw hd h1 hb0.1 hb0.2 hlt m1 m2 m3
          · simp only [stepC, newC, goC, if_pos hb0, if_neg hlt] at h; cases h
        · simp only [stepC, if_neg hb0] at h; cases h
      · have hok : (decide (n = 2) && inG (.arrayClass .int)) = true := hok
        rw [Bool.and_eq_true, decide_eq_true_eq] at hok
        obtain ⟨rfl, h1⟩ := hok
        rcases st with _ | ⟨x | x | x, r⟩ <;> first | (cases h; done) | skip
        by_cases hb0 : 0 ≤ x ∧ x < 1000
        · by_cases hlt : cs.length < 104
          · simp only [stepC, newC, goC, if_pos hb0, if_pos hlt] at h
            obtain ⟨m1, m2, m3⟩ := more h (okSC_tl ho) hlt
            simp only [slC, List.length_replicate] at m2 m3
            exact ct_newi X hw hd h1 hb0.1 hb0.2 hlt m1 m2 m3
          · simp only [stepC, newC, goC, if_pos hb0, if_neg hlt] at h; cases h
        · simp only [stepC, if_neg hb0] at h; cases h
    | anewarray v =>
      unfold okC at hok
      dsimp only at hok
      split at hok
      · rw [Bool.and_eq_true, decide_eq_true_eq] at hok
        obtain ⟨rfl, h1⟩ := hok
        rcases st with _ | ⟨x | x | x, r⟩ <;> first | (cases h; done) | skip
        by_cases hb0 : 0 ≤ x ∧ x < 1000
        · by_cases hlt : cs.length < 104
          · simp only [stepC, newC, goC, if_pos hb0, if_pos hlt] at h
            obtain ⟨m1, m2, m3⟩ := more h (okSC_tl ho) hlt
            simp only [slC, List.length_replicate] at m2 m3
            exact ct_newq X hw (Or.inl ⟨rfl, rfl⟩) hd h1 hb0.1 hb0.2 hlt m1 m2 m3
          · simp only [stepC, newC, goC, if_pos hb0, if_neg hlt] at h; cases h
        · simp only [stepC, if_neg hb0] at h; cases h
      · rw [Bool.and_eq_true, decide_eq_true_eq] at hok
        obtain ⟨rfl, h1⟩ := hok
        rcases st with _ | ⟨x | x | x, r⟩ <;> first | (cases h; done) | skip
        by_cases hb0 : 0 ≤ x ∧ x < 1000
        · by_cases hlt : cs.length < 104
          · simp only [stepC, newC, goC, if_pos hb0, if_pos hlt] at h
            obtain ⟨m1, m2, m3⟩ := more h (okSC_tl ho) hlt
            simp only [slC, List.length_replicate] at m2 m3
            exact ct_newq X hw (Or.inr ⟨rfl, rfl⟩) hd h1 hb0.1 hb0.2 hlt m1 m2 m3
          · simp only [stepC, newC, goC, if_pos hb0, if_neg hlt] at h; cases h
        · simp only [stepC, if_neg hb0] at h; cases h
      · cases hok
    | new v =>
      unfold okC at hok
      dsimp only at hok
      split at hok
      next ci =>
        rw [Bool.and_eq_true, Bool.and_eq_true, Bool.and_eq_true, decide_eq_true_eq] at hok
        obtain ⟨⟨⟨⟨rfl, h0⟩, h1⟩, h2⟩, h3⟩ := hok
        by_cases hlt : cs.length < 104
        · simp only [stepC, newC, goC, if_pos hlt] at h
          obtain ⟨m1, m2, m3⟩ := more h ho hlt
          rw [slC_c (ci := ci) rfl] at m2 m3
          exact ct_new X hw h0 hd h1 h2 h3 hlt m1 m2 m3
        · simp only [stepC, newC, goC, if_neg hlt] at h; cases h
      next => cases hok
    | putfield v =>
      unfold okC at hok
      dsimp only at hok
      split at hok
      next ci kk kd =>
        rw [Bool.and_eq_true, decide_eq_true_eq] at hok
        obtain ⟨⟨rfl, rfl, hkk, hkd⟩, h1⟩ := hok
        have key : ∀ (w : PV) (a : Nat) (r : List PV) (cc cc' : CCell), st = w :: xR a :: r → cs[a]? = some cc → cc.1 = 10 + ci → cc'.1 = cc.1 → slC cc' = slC cc → narrow (fTy ci kk) (trV g w) = trV g w → fits (fTy ci kk) (trV g w) = true → fvalC g cc' ci kk = trV g w → (∀ j, j ≠ kk → fvalC g cc' ci j = fvalC g cc ci j) → runC f ci (pc + 3) ls r (cs.set a cc') = some cs' → W p l e R s m args below meth c H locs cells slots Z (F0 m pc mls (st.map (trV g))) := by
          intro w a r cc cc' est ha ht ht' hs hn hf hv hoth hr
          subst est
          exact ct_put X hk12 hw hd hkk h1 ha ht hn hf (encC_set ht (by rw [ht', ht]) hv hoth) (wrote hr (okSC_tl (okSC_tl ho)) ha hs)
        rcases st with _ | ⟨w, _ | ⟨x | x | a, r⟩⟩
        · cases h
        · rcases w with w | w | w <;> cases h
        · rcases w with w | w | w <;> cases h
        · rcases w with w | w | w <;> cases h
        · have hkd4 := kd_le ci hk12 kk hkk
          cases ha : cs[a]? with
          | none =>
            rcases w with w | w | w <;> (match kd, h with
              | 0, h => simp only [stepC, ha] at h; cases h
              | 1, h => simp only [stepC, ha] at h; cases h
              | 2, h => simp only [stepC, ha] at h; cases h
              | 3, h => simp only [stepC, ha] at h; cases h
              | _ + 4, h => simp only [stepC, ha] at h; cases h)
          | some cc =>
            by_cases ht : cc.1 = 10 + ci ∧ kk < cc.2.1.length ∧ kk < cc.2.2.length
            · rcases w with x | x | y
              · match kd, hkd, h with
                | 0, hkd, h =>
                  simp only [stepC, ha, if_pos ht, goC] at h
                  refine key (xI x) a r cc (cc.1, cc.2.1.set kk x, cc.2.2) rfl ha ht.1 rfl (sl _ _ _) (by rw [put_0 ci hk12 kk hkk hkd]; rfl) (by rw [put_0 ci hk12 kk hkk hkd]; rfl) ?_ (fun j hj => ?_) h
                  · unfold fvalC; rw [hkd]; dsimp only; rw [getD_set_eq ht.2.1]; rfl
                  · unfold fvalC; dsimp only; rw [getD_set_ne hj]
                | 1, hkd, h => simp only [stepC] at h; cases h
                | 2, hkd, h => simp only [stepC] at h; cases h
                | _ + 3, hkd, h => simp only [stepC] at h; cases h
              · match kd, hkd, h with
                | 0, hkd, h => simp only [stepC] at h; cases h
                | 1, hkd, h => simp only [stepC] at h; cases h
                | 2, hkd, h =>
                  simp only [stepC, ha, if_pos ht, goC] at h
                  refine key (xL x) a r cc (cc.1, cc.2.1.set kk x, cc.2.2) rfl ha ht.1 rfl (sl _ _ _) (by rw [(put_2 ci hk12 kk hkk hkd).1]; rfl) (by rw [(put_2 ci hk12 kk hkk hkd).1]; rfl) ?_ (fun j hj => ?_) h
                  · unfold fvalC; rw [hkd]; dsimp only; rw [getD_set_eq ht.2.1]; rfl
                  · unfold fvalC; dsimp only; rw [getD_set_ne hj]
                | _ + 3, hkd, h => simp only [stepC] at h; cases h
              · match kd, hkd, h with
                | 0, hkd, h => simp only [stepC] at h; cases h
                | 1, hkd, h => simp only [stepC] at h; cases h
                | 2, hkd, h => simp only [stepC] at h; cases h
                | 3, hkd, h =>
                  simp only [stepC, ha, if_pos ht, goC] at h
                  have hrt := nar_ref (ref_ok ci hk12 kk hkk hkd) (g.2.2 y)
                  refine key (xR y) a r cc (cc.1, cc.2.1, cc.2.2.set kk (some y)) rfl ha ht.1 rfl (sl2 _ _ _) hrt.1 hrt.2 ?_ (fun j hj => ?_) h
                  · unfold fvalC; rw [hkd]; dsimp only; rw [getD_set_eq ht.2.2]; rfl
                  · unfold fvalC; dsimp only; rw [getD_set_ne hj]
                | _ + 4, hkd, h => simp only [stepC] at h; cases h
            · rcases w with w | w | w <;> (match kd, h with
                | 0, h => simp only [stepC, ha, if_neg ht] at h; cases h
                | 1, h => simp only [stepC, ha, if_neg ht] at h; cases h
                | 2, h => simp only [stepC, ha, if_neg ht] at h; cases h
                | 3, h => simp only [stepC, ha, if_neg ht] at h; cases h
                | _ + 4, h => simp only [stepC, ha, if_neg ht] at h; cases h)
      next => cases hok
    | getfield v =>
      unfold okC at hok
      dsimp only at hok
      split at hok
      next ci kk kd =>
        rw [Bool.and_eq_true, decide_eq_true_eq] at hok
        obtain ⟨⟨rfl, rfl, hkk, hkd⟩, h1⟩ := hok
        rcases st with _ | ⟨x | x | a, r⟩ <;> first | (cases h; done) | skip
        match kd, hkd, h with
        | 0, hkd, h => simp only [stepC] at h; cases h
        | 1, hkd, h => simp only [stepC] at h; cases h
        | 2, hkd, h => simp only [stepC] at h; cases h
        | _ + 4, hkd, h => simp only [stepC] at h; cases h
        | 3, hkd, h =>
          cases ha : cs[a]? with
          | none => simp only [stepC, ha] at h; cases h
          | some cc =>
            by_cases ht : cc.1 = 10 + ci
            · cases hr : cc.2.2.getD kk none with
              | none => simp only [stepC, ha, if_pos ht, hr] at h; cases h
              | some b =>
                simp only [stepC, ha, if_pos ht, hr, goC] at h
                have ⟨w1, w2, w3, w4, w5, w6, w7, w8, w9⟩ := hw
                have hat := wsC_at g cs ha
                rw [encC_c ht] at hat
                have hsame : ∀ x, s.fieldFound? ((fT ci) kk).1 ((fT ci) kk).2.1 ((fT ci) kk).2.2.1 = some x → s.fieldFound? (cn ci) ((fT ci) kk).2.1 ((fT ci) kk).2.2.1 = some x := by
                  rw [own_f ci hk12 kk hkk]; exact fun _ h => h
                have hv : ((List.range (nfld ci)).map (fvalC g cc ci))[kk]? = some (trV g (xR b)) := by
                  rw [List.getElem?_map, List.getElem?_range hkk]
                  show some (fvalC g cc ci kk) = _
                  unfold fvalC
                  rw [hkd, hr]
                  rfl
                exact va_get hx hb hG (ly_g hk12) hown w1 w2 a hat (cl_at hk12) kk hkk (hG _ (inG_m h1)) hsame hv hd (same h hl (okSC_cons (okSC_tl ho) (v := xR b) trivial))
            · simp only [stepC, ha, if_neg ht] at h; cases h
      next => cases hok
    | arraylength =>
      obtain rfl := of_decide_eq_true hok
      rcases st with _ | ⟨x | x | a, r⟩ <;> first | (cases h; done) | skip
      cases ha : cs[a]? with
      | none => simp only [stepC, ha] at h; cases h
      | some cc =>
        by_cases ht : (cc.1 = 2 ∨ cc.1 = 3) ∧ cc.2.2.length < 1000
        · simp only [stepC, ha, if_pos ht, goC] at h
          have ⟨w1, w2, w3, w4, w5, w6, w7, w8, w9⟩ := hw
          have hat := wsC_at g cs ha
          have fin := same h hl (okSC_cons (okSC_tl ho) (v := xI (cc.2.2.length : Int)) (in32_nat (by omega)))
          rcases ht.1 with t2 | t3
          · rw [encC_2 t2] at hat
            exact va_alen hx hb w1 w2 a 2 hat rfl (i32_nat _).symm hd fin
          · rw [encC_3 t3] at hat
            exact va_alen hx hb w1 w2 a 3 hat rfl (i32_nat _).symm hd fin
        · simp only [stepC, ha, if_neg ht] at h; cases h
    | if_icmp cd off =>
      unfold okC at hok
      dsimp only at hok
      split at hok
      next t =>
        obtain ⟨rfl, h0⟩ := of_decide_eq_true hok
        cases cd <;> first | (cases h; done) | skip
        rcases st with _ | ⟨y | y | y, _ | ⟨x | x | x, r⟩⟩ <;> first | (cases h; done) | skip
        have hy : in32 y := okSC_hd ho
        have hxx : in32 x := okSC_hd (okSC_tl ho)
        by_cases hc : y ≤ x
        · simp only [stepC, if_pos hc, goC] at h
          exact lv_icmp_ge hx hb hd h0 (fun _ => same h hl (okSC_tl (okSC_tl ho))) (fun q => absurd ((i32_le hy hxx).mpr hc) q)
        · simp only [stepC, if_neg hc, goC] at h
          exact lv_icmp_ge hx hb hd h0 (fun q => absurd ((i32_le hy hxx).mp q) hc) (fun _ => same h hl (okSC_tl (okSC_tl ho)))
      next => cases hok
    | goto off =>
      unfold okC at hok
      dsimp only at hok
      split at hok
      next t =>
        obtain ⟨rfl, h0⟩ := of_decide_eq_true hok
        exact lv_goto hx hb hd h0 (same h hl ho)
      next => cases hok
    | aastore =>
      obtain rfl := of_decide_eq_true hok
      rcases st with _ | ⟨y | y | y, _ | ⟨x | x | x, _ | ⟨a | a | a, r⟩⟩⟩ <;> first | (cases h; done) | skip
      cases ha : cs[a]? with
      | none => simp only [stepC, ha] at h; cases h
      | some cc =>
        cases hy : cs[y]? with
        | none => simp only [stepC, ha, hy] at h; cases h
        | some dd =>
          by_cases hc : 0 ≤ x ∧ x < (cc.2.2.length : Int) ∧ ((cc.1 = 2 ∧ dd.1 = 16) ∨ (cc.1 = 3 ∧ dd.1 = 18))
          · simp only [stepC, ha, hy, if_pos hc, goC] at h
            have hxx : in32 x := okSC_hd (okSC_tl ho)
            have kn := wrote (cc := cc) h (okSC_tl (okSC_tl (okSC_tl ho))) ha (sl2 _ _ _)
            have hlen : ∀ v : Option Nat, (cc.2.2.set x.toNat v).length = cc.2.2.length := fun v => by simp
            rcases hc.2.2 with ⟨t2, d2⟩ | ⟨t3, d3⟩
            · refine ct_ast1 (ci := 6) (t0 := 2) X hw hd (by omega) ha hy d2 hc.1 hc.2.1 hxx (encC_2 t2) ?_ rfl kn
              rw [encC_2 (c := (cc.1, cc.2.1, cc.2.2.set x.toNat (some y))) t2]
              dsimp only
              rw [hlen]
            · refine ct_ast1 (ci := 8) (t0 := 3) X hw hd (by omega) ha hy d3 hc.1 hc.2.1 hxx (encC_3 t3) ?_ rfl kn
              rw [encC_3 (c := (cc.1, cc.2.1, cc.2.2.set x.toNat (some y))) t3]
              dsimp only
              rw [hlen]
          · simp only [stepC, ha, hy, if_neg hc] at h; cases h
    | invokespecial v =>
      unfold okC at hok
      dsimp only at hok
      split at hok
      · rw [Bool.and_eq_true, Bool.and_eq_true, decide_eq_true_eq] at hok
        obtain ⟨⟨⟨rfl, h0, h00⟩, h1⟩, h2⟩ := hok
        rcases st with _ | ⟨x | x | a, r⟩ <;> first | (cases h; done) | skip
        by_cases hc : cats r ≤ 8
        · simp only [stepC, if_pos hc, goC] at h
          refine W.objInit hx hb hown (hG _ (inG_m h1)) (hG _ (inG_m h2)) (hG _ oI_g) rfl (by rw [hml]; exact hl.1) rfl hd (by omega) ?_ (same h hl (okSC_tl ho))
          show 2 * 0 + ((r.map (trV g)).map (fun v => v.category)).sum + 12 ≤ R.locals
          rw [cats_map]
          omega
        · simp only [stepC, if_neg hc] at h; cases h
      next kc =>
        rw [Bool.and_eq_true, Bool.and_eq_true, Bool.and_eq_true, decide_eq_true_eq] at hok
        obtain ⟨⟨⟨⟨rfl, hkc, hf1, hf2, hf3⟩, h1⟩, h2⟩, h3⟩ := hok
        rcases st with _ | ⟨x | x | a, r⟩ <;> first | (cases h; done) | skip
        by_cases hc : cats r ≤ 8
        · simp only [stepC, if_pos hc] at h
          cases hr : runC f kc 0 (entL (cML kc) [xR a]) [] cs with
          | none => rw [hr] at h; cases h
          | some cs1 =>
            rw [hr] at h
            have g1 := gr _ _ _ _ _ _ hr
            have g2 := gr _ _ _ _ _ _ h
            obtain ⟨e1, he1⟩ : ∃ e1, cs1.length = cs.length + e1 := ⟨cs1.length - cs.length, by omega⟩
            obtain ⟨e2, he2⟩ : ∃ e2, totS cs1 = totS cs + e2 := ⟨totS cs1 - totS cs, by omega⟩
            have hM := PC_met (ih _ _ _ _ _ _ hr) hkc he1 he2 hw.2.2.2.2.2.1
            have ⟨w1, w2, w3, w4, w5, w6, w7, w8, w9⟩ := hw
            have hrun : va_Run p l e R s m args below meth c H locs cells slots e1 e2 (F0 m pc mls (([] : List Value).reverse ++ .ref (g.2.2 a) :: r.map (trV g))) (r.map (trV g)) (QccC g base cs1 (Value.ref (g.2.2 a) :: []).toArray) (fun q => base ≤ q) :=
              va_runIN (As := []) (rest := r.map (trV g)) (nL := cML k) (Ts := tblG) (own := cn k) (host := "OddShoes") ⟨hx, hb, hml, hown, hG⟩ hM ⟨va_cnB 0 hG (goodC_ws hkc) rfl rfl rfl (hN _ (inN_m h1)) (hG _ (inG_m h2)) ⟨c_no1 kc hkc, c_no2 kc hkc, c_par kc hkc⟩ ⟨by show cFr kc + 1 ≤ _; omega, by show 8 + (cML kc + 11) + cLo kc ≤ _; omega⟩, c_nm kc hkc, hG _ (inG_m h3)⟩
                ⟨PccC_blind, fun U hU hW => ⟨rfl, va_K.moved hW.alike w1, by rw [hU]; exact w2, w3, by rw [hU]; exact w5, w8.moved hW.alike, w9.moved hW.alike, fun w hw => nest_warm hw hW (hN w hw)⟩⟩ rfl rfl hl.1 rfl (lv_room (by rw [cats_map]; exact hc)) hd ⟨by omega, by omega⟩
            intro T hT XX
            obtain ⟨vv, st₀, t, T', M, q0, X', hMf, q1, q2, ⟨hv, hP, hD, hz, hF⟩, stp⟩ := hrun T hT XX
            cases hv
            unfold va_F at hF
            rw [q0] at hF
            have hw' : WC g base cs1 s T'.heap (locs ++ M) := ⟨w1, by rw [q1]; exact hP, hD, ⟨Nat.le_trans w4.1 (by rw [q1]; exact hF.1), fun q h1 h2 => by rw [q1, hF.2 q (Nat.lt_of_lt_of_le h1 w4.1) h2]; exact w4.2.1 q h1 h2, fun q hq => by
              rcases List.mem_append.mp hq with h | h
              · exact w4.2.2 q h
              · exact hMf q h⟩, by rw [q1]; exact hz, w6, w7, w8, w9⟩
            obtain ⟨t2, a1, b1⟩ := ih _ _ _ _ _ _ h p e R s m args below meth c T'.heap (locs ++ M) (cells + e1) (slots + e2) (d1 - e1) (d2 - e2) Z mls X hl (okSC_tl ho) hw' (by omega) (by omega) (by omega) (by omega) (by
              rw [show cells + e1 + (d1 - e1) = cells + d1 by omega, show slots + e2 + (d2 - e2) = slots + d2 by omega]; exact hret) T' rfl X'
            exact ⟨t2, stp t2 a1, b1⟩
        · simp only [stepC, if_neg hc] at h; cases h
      next => cases hok
    | return_ =>
      obtain rfl := of_decide_eq_true hok
      rcases st with _ | ⟨x, r⟩
      · simp only [stepC] at h
        cases h
        have e1 : d1 = 0 := by omega
        have e2 : d2 = 0 := by omega
        subst e1; subst e2
        exact hret H locs pc mls hw hd
      · cases h
    | _ => cases h
