/-! numbers of the small machine and of the great one -/
theorem i32_toInt {x : Int} (h : in32 x) : (i32 x).toInt = x := Int32.toInt_ofInt_of_le (by have := h.1; omega) (by have := h.2; omega)
theorem i64_toInt {x : Int} (h : in64 x) : (i64 x).toInt = x := Int64.toInt_ofInt_of_le (by have := h.1; omega) (by have := h.2; omega)
theorem in32_toInt (z : Int32) : in32 z.toInt := ⟨by have := z.le_toInt; omega, by have := z.toInt_lt; omega⟩
theorem in64_toInt (z : Int64) : in64 z.toInt := ⟨by have := z.le_toInt; omega, by have := z.toInt_lt; omega⟩
theorem i32_of (z : Int32) : i32 z.toInt = z := Int32.ofInt_toInt z
theorem i64_of (z : Int64) : i64 z.toInt = z := Int64.ofInt_toInt z
theorem i32_w (x : Int) : i32 (w32 x) = i32 x := Int32.ofInt_toInt _
theorem i64_w (x : Int) : i64 (w64 x) = i64 x := Int64.ofInt_toInt _
theorem in32_w (x : Int) : in32 (w32 x) := in32_toInt _
theorem in64_w (x : Int) : in64 (w64 x) := in64_toInt _
theorem i32_add (x y : Int) : i32 (w32 (x + y)) = i32 x + i32 y := by rw [i32_w]; exact Int32.ofInt_add x y
theorem i32_sub (x y : Int) : i32 (w32 (x - y)) = i32 x - i32 y := by rw [i32_w]; exact Int32.ofInt_sub x y
theorem i32_mul (x y : Int) : i32 (w32 (x * y)) = i32 x * i32 y := by rw [i32_w]; exact Int32.ofInt_mul x y
theorem i32_neg (x : Int) : i32 (w32 (-x)) = -i32 x := by rw [i32_w]; exact Int32.ofInt_neg x
theorem i64_add (x y : Int) : i64 (w64 (x + y)) = i64 x + i64 y := by rw [i64_w]; exact Int64.ofInt_add x y
theorem i64_sub (x y : Int) : i64 (w64 (x - y)) = i64 x - i64 y := by rw [i64_w]; exact Int64.ofInt_sub x y
theorem i64_mul (x y : Int) : i64 (w64 (x * y)) = i64 x * i64 y := by rw [i64_w]; exact Int64.ofInt_mul x y
theorem i32_div {x y : Int} (hx : in32 x) (hy : in32 y) : i32 (w32 (x.tdiv y)) = i32 x / i32 y := by
  rw [i32_w]
  exact Int32.toInt_inj.mp (by rw [Int32.toInt_div, Int32.toInt_ofInt, i32_toInt hx, i32_toInt hy])
theorem i64_div {x y : Int} (hx : in64 x) (hy : in64 y) : i64 (w64 (x.tdiv y)) = i64 x / i64 y := by
  rw [i64_w]
  exact Int64.toInt_inj.mp (by rw [Int64.toInt_div, Int64.toInt_ofInt, i64_toInt hx, i64_toInt hy])
theorem i32_rem {x y : Int} (hx : in32 x) (hy : in32 y) : i32 (x.tmod y) = i32 x - i32 x / i32 y * i32 y := by
  rw [← i32_div hx hy, i32_w, ← Int32.ofInt_mul, ← Int32.ofInt_sub]
  congr 1
  rw [Int.tmod_def, Int.mul_comm]
theorem i64_rem {x y : Int} (hx : in64 x) (hy : in64 y) : i64 (x.tmod y) = i64 x - i64 x / i64 y * i64 y := by
  rw [← i64_div hx hy, i64_w, ← Int64.ofInt_mul, ← Int64.ofInt_sub]
  congr 1
  rw [Int.tmod_def, Int.mul_comm]
theorem tmod_small (x y : Int) : (0 ≤ x → 0 ≤ x.tmod y ∧ x.tmod y ≤ x) ∧ (x < 0 → x ≤ x.tmod y ∧ x.tmod y ≤ 0) := by
  have h1 : (x.tmod y).natAbs = x.natAbs % y.natAbs := Int.natAbs_tmod x y
  have h2 : x.natAbs % y.natAbs ≤ x.natAbs := Nat.mod_le _ _
  refine ⟨fun h => ?_, fun h => ?_⟩
  · have := Int.tmod_nonneg y h
    omega
  · have h3 : 0 ≤ (-x).tmod y := Int.tmod_nonneg y (by omega)
    rw [Int.neg_tmod] at h3
    omega
theorem in32_rem {x : Int} (y : Int) (hx : in32 x) : in32 (x.tmod y) := by
  have h := tmod_small x y
  obtain ⟨h1, h2⟩ := hx
  rcases Int.lt_or_le x 0 with c | c
  · have := h.2 c; exact ⟨by omega, by omega⟩
  · have := h.1 c; exact ⟨by omega, by omega⟩
theorem in64_rem {x : Int} (y : Int) (hx : in64 x) : in64 (x.tmod y) := by
  have h := tmod_small x y
  obtain ⟨h1, h2⟩ := hx
  rcases Int.lt_or_le x 0 with c | c
  · have := h.2 c; exact ⟨by omega, by omega⟩
  · have := h.1 c; exact ⟨by omega, by omega⟩
theorem i32_eq {x y : Int} (hx : in32 x) (hy : in32 y) : i32 x = i32 y ↔ x = y := ⟨fun h => by rw [← i32_toInt hx, ← i32_toInt hy, h], fun h => by rw [h]⟩
theorem i32_lt {x y : Int} (hx : in32 x) (hy : in32 y) : i32 x < i32 y ↔ x < y := by rw [Int32.lt_iff_toInt_lt, i32_toInt hx, i32_toInt hy]
theorem i32_le {x y : Int} (hx : in32 x) (hy : in32 y) : i32 x ≤ i32 y ↔ x ≤ y := by rw [Int32.le_iff_toInt_le, i32_toInt hx, i32_toInt hy]
theorem i64_eq {x y : Int} (hx : in64 x) (hy : in64 y) : i64 x = i64 y ↔ x = y := ⟨fun h => by rw [← i64_toInt hx, ← i64_toInt hy, h], fun h => by rw [h]⟩
theorem i64_lt {x y : Int} (hx : in64 x) (hy : in64 y) : i64 x < i64 y ↔ x < y := by rw [Int64.lt_iff_toInt_lt, i64_toInt hx, i64_toInt hy]
theorem in32_0 : in32 0 := ⟨by decide, by decide⟩
theorem i32_0 : i32 0 = 0 := rfl
theorem i32_cmp {x y : Int} (hx : in64 x) (hy : in64 y) : i32 (cmpL x y) = lg_cmp (i64 x) (i64 y) := by
  unfold cmpL lg_cmp
  simp only [gt_iff_lt, i64_lt hy hx, i64_eq hx hy]
  split
  · rfl
  · split <;> rfl
theorem in32_cmp (x y : Int) : in32 (cmpL x y) := by
  unfold cmpL; split
  · exact ⟨by decide, by decide⟩
  · split <;> exact ⟨by decide, by decide⟩
theorem i32_i2l {x : Int} (hx : in32 x) : (i32 x).toInt64 = i64 x := by
  apply Int64.toInt_inj.mp
  rw [Int32.toInt_toInt64, i32_toInt hx, i64_toInt ⟨by have := hx.1; omega, by have := hx.2; omega⟩]
theorem in64_of32 {x : Int} (h : in32 x) : in64 x := ⟨by have := h.1; omega, by have := h.2; omega⟩
theorem i32_clamp {x : Int} (h0 : 0 ≤ x) (h : in32 x) : (i32 x).toNatClampNeg = x.toNat := by
  show (i32 x).toInt.toNat = _
  rw [i32_toInt h]
theorem i32_in {x : Int} {n : Nat} (h : in32 x) (h0 : 0 ≤ x) (h1 : x < (n : Int)) : vp_in (i32 x) n := by
  unfold vp_in
  rw [i32_clamp h0 h]
  rintro (q | q)
  · have : i32 x < i32 0 := q
    rw [i32_lt h in32_0] at this
    omega
  · omega
/-! the values, the cells, the world -/
abbrev GC : Type := va_G × (ClassId × ClassId × ClassId × ClassId) × (Nat → Nat)
def trV (g : GC) : PV → Value
  | .inl x => .int (i32 x)
  | .inr (.inl x) => .long (i64 x)
  | .inr (.inr a) => .ref (g.2.2 a)
def fval (g : GC) (σ : Mem) (o c k : Nat) : Value := match fknd c k with
  | 2 => .long (i64 (σ o k))
  | 3 => .ref (g.2.2 (tgt o k))
  | _ => .int (i32 (σ o k))
def cellE (g : GC) (σ : Mem) (o : Nat) : va_E := match tag o with
  | 0 => .inl (g.2.1.1, len0 o, .inl (fun j => i32 (σ o j)))
  | 1 => .inl (g.2.1.2.1, len0 o, .inl (fun j => i32 (σ o j)))
  | 2 => .inl (g.2.1.2.2.1, len0 o, .inr (.inr (.inr (.inr (fun j => some (g.2.2 (tgt o j)))))))
  | 3 => .inl (g.2.1.2.2.2, len0 o, .inr (.inr (.inr (.inr (fun j => some (g.2.2 (tgt o j)))))))
  | t => .inr (t - 10, (List.range (nfld (t - 10))).map (fval g σ o (t - 10)))
def wsO (g : GC) (σ : Mem) : va_W := (List.range 104).map (fun o => (g.2.2 o, cellE g σ o))
def tysO (g : GC) : List (ClassId × FieldType) := [(g.2.1.1, .int), (g.2.1.2.1, .boolean), (g.2.1.2.2.1, .object "OddShoes$Person"), (g.2.1.2.2.2, .object "OddShoes$Valley")]
def isLg (o j : Nat) : Prop := o = 38 ∧ (j = 4 ∨ j = 5)
def rngM (σ : Mem) : Prop := ∀ o j, (isLg o j → in64 (σ o j)) ∧ (¬ isLg o j → in32 (σ o j))
theorem tag_big {o : Nat} (h : 105 ≤ o) : tag o = 8 := by
  unfold tag
  rw [List.getD_eq_getElem?_getD, List.getElem?_eq_none (by simpa [tagT] using h)]
  rfl
theorem tag_lt {o t : Nat} (h : tag o = t) (h8 : t ≠ 8) (h9 : t ≠ 9) : o < 104 := by
  rcases Nat.lt_or_ge o 104 with q | q
  · exact q
  · rcases Nat.eq_or_lt_of_le q with e | e
    · exact absurd (h.symm.trans (by rw [← e]; rfl)) h9
    · exact absurd (h.symm.trans (tag_big e)) h8
theorem tag_9 {o : Nat} (h : tag o = 9) : o = 104 := by
  rcases Nat.lt_or_ge o 105 with q | q
  · have : ∀ o, o < 105 → tag o = 9 → o = 104 := by decide
    exact this o q h
  · rw [tag_big q] at h; cases h
theorem tag_13 {o : Nat} (h : tag o = 13) : o = 38 := by
  rcases Nat.lt_or_ge o 105 with q | q
  · have : ∀ o, o < 105 → tag o = 13 → o = 38 := by decide
    exact this o q h
  · rw [tag_big q] at h; cases h
theorem wsO_at (g : GC) (σ : Mem) {o : Nat} (h : o < 104) : (wsO g σ)[o]? = some (g.2.2 o, cellE g σ o) := by
  unfold wsO
  rw [List.getElem?_map, List.getElem?_range h]
  rfl
theorem cellE_congr {g : GC} {σ σ' : Mem} {o : Nat} (h : ∀ j, σ' o j = σ o j) : cellE g σ' o = cellE g σ o := by
  have h : σ' o = σ o := funext h
  unfold cellE
  have hf : ∀ c, fval g σ' o c = fval g σ o c := fun c => funext fun k => by unfold fval; rw [h]
  rw [h]
  simp only [hf]
theorem wsO_set {g : GC} {σ σ' : Mem} {a : Nat} {e : va_E} (he : cellE g σ' a = e) (ho : ∀ o, o ≠ a → ∀ j, σ' o j = σ o j) : (wsO g σ).set a (g.2.2 a, e) = wsO g σ' := by
  apply List.ext_getElem?
  intro i
  rw [List.getElem?_set]
  by_cases hi : i < 104
  · rw [wsO_at g σ' hi]
    by_cases hia : a = i
    · subst hia
      rw [if_pos rfl, if_pos (by simpa [wsO] using hi), he]
    · rw [if_neg hia, wsO_at g σ hi, cellE_congr (ho i (fun q => hia q.symm))]
  · have hn : ∀ σ, (wsO g σ)[i]? = none := fun σ => List.getElem?_eq_none (by simpa [wsO] using Nat.not_lt.mp hi)
    rw [hn, hn]
    split
    next h => subst h; rw [if_neg (by simpa [wsO] using hi)]
    next => rfl
theorem up_ne {σ : Mem} {a k o : Nat} {x : Int} (h : o ≠ a) (j : Nat) : up σ a k x o j = σ o j := by
  unfold up
  rw [if_neg (fun q => h q.1)]
theorem up_at (σ : Mem) (a k : Nat) (x : Int) (j : Nat) : up σ a k x a j = if j = k then x else σ a j := by
  unfold up
  by_cases h : j = k
  · rw [if_pos ⟨rfl, h⟩, if_pos h]
  · rw [if_neg (fun q => h q.2), if_neg h]
theorem rngM_up {σ : Mem} (h : rngM σ) {a k : Nat} {x : Int} (h1 : isLg a k → in64 x) (h2 : ¬ isLg a k → in32 x) : rngM (up σ a k x) := by
  intro o j
  unfold up
  by_cases e : o = a ∧ j = k
  · rw [if_pos e]
    obtain ⟨rfl, rfl⟩ := e
    exact ⟨h1, h2⟩
  · rw [if_neg e]
    exact h o j
theorem cell_0 {g : GC} {σ : Mem} {o : Nat} (h : tag o = 0) : cellE g σ o = .inl (g.2.1.1, len0 o, .inl (fun j => i32 (σ o j))) := by
  unfold cellE; rw [h]; rfl
theorem cell_1 {g : GC} {σ : Mem} {o : Nat} (h : tag o = 1) : cellE g σ o = .inl (g.2.1.2.1, len0 o, .inl (fun j => i32 (σ o j))) := by
  unfold cellE; rw [h]; rfl
theorem cell_2 {g : GC} {σ : Mem} {o : Nat} (h : tag o = 2) : cellE g σ o = .inl (g.2.1.2.2.1, len0 o, .inr (.inr (.inr (.inr (fun j => some (g.2.2 (tgt o j))))))) := by
  unfold cellE; rw [h]; rfl
theorem cell_3 {g : GC} {σ : Mem} {o : Nat} (h : tag o = 3) : cellE g σ o = .inl (g.2.1.2.2.2, len0 o, .inr (.inr (.inr (.inr (fun j => some (g.2.2 (tgt o j))))))) := by
  unfold cellE; rw [h]; rfl
theorem cell_c {g : GC} {σ : Mem} {o c : Nat} (h : tag o = 10 + c) : cellE g σ o = .inr (c, (List.range (nfld c)).map (fval g σ o c)) := by
  have e : 10 + c = (c + 6) + 4 := by omega
  unfold cellE
  rw [h, e]
  simp only [show c + 6 + 4 - 10 = c by omega]
theorem cell_up0 {g : GC} {σ : Mem} {a k : Nat} {x : Int} (h : tag a = 0) : cellE g (up σ a k x) a = .inl (g.2.1.1, len0 a, .inl (upd (fun j => i32 (σ a j)) k (i32 x))) := by
  rw [cell_0 h]
  congr 4
  funext j
  rw [up_at]
  unfold upd
  split <;> rfl
theorem cell_up1 {g : GC} {σ : Mem} {a k : Nat} {x : Int} (h : tag a = 1) : cellE g (up σ a k x) a = .inl (g.2.1.2.1, len0 a, .inl (upd (fun j => i32 (σ a j)) k (i32 x))) := by
  rw [cell_1 h]
  congr 4
  funext j
  rw [up_at]
  unfold upd
  split <;> rfl
theorem cell_upc {g : GC} {σ : Mem} {a c k : Nat} {x : Int} {v : Value} (h : tag a = 10 + c) (hv : fval g (up σ a k x) a c k = v) : cellE g (up σ a k x) a = .inr (c, ((List.range (nfld c)).map (fval g σ a c)).set k v) := by
  rw [cell_c h]
  congr 2
  apply List.ext_getElem?
  intro i
  rw [List.getElem?_set, List.getElem?_map, List.getElem?_map]
  by_cases hi : i < nfld c
  · rw [List.getElem?_range hi]
    by_cases hk : k = i
    · subst hk
      rw [if_pos rfl, if_pos (by simpa using hi), ← hv]
      rfl
    · rw [if_neg hk]
      show some _ = some _
      congr 1
      unfold fval
      rw [up_at, if_neg (fun q => hk q.symm)]
  · rw [List.getElem?_eq_none (l := List.range (nfld c)) (by simpa using Nat.not_lt.mp hi)]
    split
    next h => subst h; rw [if_neg (by simpa using hi)]; rfl
    next => rfl
/-! the locals -/
def lvV (g : GC) (ls : LSt) (i : Nat) : Option Value := match nth ls i with
  | none => none
  | some (.inr (.inl x)) => (match nth ls (i + 1) with
    | none => some (.long (i64 x))
    | some _ => none)
  | some (.inl x) => some (.int (i32 x))
  | some (.inr (.inr a)) => some (.ref (g.2.2 a))
def lvl (g : GC) (ls : LSt) : List (Nat × Value) := (List.range ls.length).filterMap (fun i => (lvV g ls i).map (fun v => (i, v)))
theorem nth_lt {ls : LSt} {i : Nat} {v : PV} (h : nth ls i = some v) : i < ls.length := by
  induction ls generalizing i with
  | nil => cases h
  | cons x l ih =>
    cases i with
    | zero => simp
    | succ n => have := ih (i := n) h; simp; omega
theorem nth_stn (ls : LSt) (i j : Nat) (v : Option PV) : nth (stn ls i v) j = if j = i ∧ i < ls.length then v else nth ls j := by
  induction ls generalizing i j with
  | nil => simp [stn, nth]
  | cons x l ih =>
    cases i with
    | zero => cases j <;> simp [stn, nth]
    | succ n =>
      cases j with
      | zero => simp [stn, nth]
      | succ m => simp [stn, nth, ih]
theorem stn_len (ls : LSt) (i : Nat) (v : Option PV) : (stn ls i v).length = ls.length := by
  induction ls generalizing i with
  | nil => rfl
  | cons x l ih => cases i <;> simp [stn, ih]
theorem lvl_mem {g : GC} {ls : LSt} {q : Nat × Value} : q ∈ lvl g ls ↔ lvV g ls q.1 = some q.2 := by
  unfold lvl
  rw [List.mem_filterMap]
  constructor
  · rintro ⟨i, -, h⟩
    cases hv : lvV g ls i with
    | none => rw [hv] at h; cases h
    | some v => rw [hv] at h; cases h; exact hv
  · intro h
    refine ⟨q.1, ?_, by rw [h]; rfl⟩
    unfold lvV at h
    cases hn : nth ls q.1 with
    | none => rw [hn] at h; cases h
    | some v => exact List.mem_range.mpr (nth_lt hn)
theorem lvl_I {g : GC} {ls : LSt} {mls : Array Slot} {n i : Nat} {x : Int} (h : lv_has mls n (lvl g ls)) (hi : nth ls i = some (xI x)) : mls[i]? = some (.val (.int (i32 x))) :=
  h.2.2 (i, _) (lvl_mem.mpr (by show lvV g ls i = _; unfold lvV; rw [hi]))
theorem lvl_R {g : GC} {ls : LSt} {mls : Array Slot} {n i : Nat} {a : Nat} (h : lv_has mls n (lvl g ls)) (hi : nth ls i = some (xR a)) : mls[i]? = some (.val (.ref (g.2.2 a))) :=
  h.2.2 (i, _) (lvl_mem.mpr (by show lvV g ls i = _; unfold lvV; rw [hi]))
theorem lvl_L {g : GC} {ls : LSt} {mls : Array Slot} {n i : Nat} {x : Int} (h : lv_has mls n (lvl g ls)) (hi : nth ls i = some (xL x)) (h2 : nth ls (i + 1) = none) : mls[i]? = some (.val (.long (i64 x))) :=
  h.2.2 (i, _) (lvl_mem.mpr (by show lvV g ls i = _; unfold lvV; rw [hi]; show (match nth ls (i + 1) with | none => _ | some _ => _) = _; rw [h2]))
/-- behind a store of one slot -/
theorem lvl_st1 {g : GC} {ls : LSt} {mls : Array Slot} {n i : Nat} {v : PV} (hi : i < ls.length) (hv : (trV g v).category = 1) (h : lv_has mls n ((i, trV g v) :: (lvl g ls).filter (fun q => !(q.1 == i) && !(q.1 + 1 == i && q.2.category == 2)))) : lv_has mls n (lvl g (stn ls i (some v))) := by
  refine ⟨h.1, h.2.1, fun q hq => h.2.2 q ?_⟩
  obtain ⟨j, w⟩ := q
  rw [lvl_mem] at hq
  have hq : lvV g (stn ls i (some v)) j = some w := hq
  unfold lvV at hq
  by_cases e : j = i
  · subst e
    rw [nth_stn, if_pos ⟨rfl, hi⟩] at hq
    rcases v with x | x | a
    · rw [← Option.some.inj hq]; exact List.mem_cons_self
    · simp [trV, Value.category] at hv
    · rw [← Option.some.inj hq]; exact List.mem_cons_self
  · rw [nth_stn, if_neg (fun q => e q.1)] at hq
    refine List.mem_cons_of_mem _ (List.mem_filter.mpr ?_)
    rw [lvl_mem]
    show lvV g ls j = some w ∧ (!(j == i) && !(j + 1 == i && w.category == 2)) = true
    unfold lvV
    cases hn : nth ls j with
    | none => rw [hn] at hq; cases hq
    | some u =>
      rw [hn] at hq
      rcases u with x | x | a
      · rw [← Option.some.inj hq]
        exact ⟨rfl, by simp [e, Value.category]⟩
      · rw [nth_stn] at hq
        by_cases e2 : j + 1 = i
        · rw [if_pos ⟨e2, hi⟩] at hq; cases hq
        · rw [if_neg (fun q => e2 q.1)] at hq
          exact ⟨hq, by simp [e, e2]⟩
      · rw [← Option.some.inj hq]
        exact ⟨rfl, by simp [e, Value.category]⟩
/-- behind a store of two slots -/
theorem lvl_st2 {g : GC} {ls : LSt} {mls : Array Slot} {n i : Nat} {x : Int} (hi : i + 1 < ls.length) (h : lv_has mls n ((i, Value.long (i64 x)) :: (lvl g ls).filter (fun q => !(q.1 == i) && (!(q.1 == i + 1) && !(q.1 + 1 == i && q.2.category == 2))))) : lv_has mls n (lvl g (stn (stn ls i (some (xL x))) (i + 1) none)) := by
  refine ⟨h.1, h.2.1, fun q hq => h.2.2 q ?_⟩
  obtain ⟨j, w⟩ := q
  rw [lvl_mem] at hq
  have hq : lvV g (stn (stn ls i (some (xL x))) (i + 1) none) j = some w := hq
  have hat : ∀ m, nth (stn (stn ls i (some (xL x))) (i + 1) none) m = if m = i + 1 then none else if m = i then some (xL x) else nth ls m := by
    intro m
    rw [nth_stn, nth_stn, stn_len]
    simp only [hi, show i < ls.length by omega, and_true]
  unfold lvV at hq
  rw [hat j, hat (j + 1)] at hq
  by_cases e1 : j = i + 1
  · rw [if_pos e1] at hq; cases hq
  · rw [if_neg e1] at hq
    by_cases e : j = i
    · subst e
      rw [if_pos rfl, if_pos rfl] at hq
      rw [← Option.some.inj hq]; exact List.mem_cons_self
    · rw [if_neg e] at hq
      refine List.mem_cons_of_mem _ (List.mem_filter.mpr ?_)
      rw [lvl_mem]
      show lvV g ls j = some w ∧ (!(j == i) && (!(j == i + 1) && !(j + 1 == i && w.category == 2))) = true
      unfold lvV
      cases hn : nth ls j with
      | none => rw [hn] at hq; cases hq
      | some u =>
        rw [hn] at hq
        rcases u with y | y | a
        · rw [← Option.some.inj hq]
          exact ⟨rfl, by simp [e, e1, Value.category]⟩
        · by_cases e2 : j + 1 = i
          · rw [if_neg (show ¬ j + 1 = i + 1 by omega), if_pos e2] at hq; cases hq
          · rw [if_neg (show ¬ j + 1 = i + 1 by omega), if_neg e2] at hq
            exact ⟨hq, by simp [e, e1, e2]⟩
        · rw [← Option.some.inj hq]
          exact ⟨rfl, by simp [e, e1, Value.category]⟩
/-- the locals with which a method begins -/
theorem entL_len : ∀ (as : List PV) (n : Nat), cats as ≤ n → (entL n as).length = n
  | [], n, _ => by simp [entL]
  | .inl x :: as, n, h => by
    have := entL_len as (n - 1) (by simp [cats] at h; omega)
    simp [entL, this]; simp [cats] at h; omega
  | .inr (.inl x) :: as, n, h => by
    have := entL_len as (n - 2) (by simp [cats] at h; omega)
    simp [entL, this]; simp [cats] at h; omega
  | .inr (.inr x) :: as, n, h => by
    have := entL_len as (n - 1) (by simp [cats] at h; omega)
    simp [entL, this]; simp [cats] at h; omega
theorem nth_rep (n i : Nat) : nth (List.replicate n none) i = none := by
  induction n generalizing i with
  | zero => rfl
  | succ n ih => cases i <;> simp [List.replicate, nth, ih]
theorem lg_cats (g : GC) : ∀ as : List PV, (lg_sl (as.map (trV g))).length = cats as
  | [] => rfl
  | .inl x :: as => by simpa [lg_sl, cats, trV, Value.category] using lg_cats g as
  | .inr (.inl x) :: as => by simpa [lg_sl, cats, trV, Value.category] using lg_cats g as
  | .inr (.inr x) :: as => by simpa [lg_sl, cats, trV, Value.category] using lg_cats g as
theorem lvV_ent (g : GC) : ∀ (as : List PV) (n i j : Nat) (w : Value), lvV g (entL n as) j = some w → (i + j, w) ∈ lv_args i (as.map (trV g))
  | [], n, i, j, w, h => by
    unfold lvV at h
    rw [entL, nth_rep] at h
    cases h
  | .inl x :: as, n, i, j, w, h => by
    cases j with
    | zero => cases h; exact List.mem_cons_self
    | succ j =>
      have := lvV_ent g as (n - 1) (i + 1) j w h
      rw [show i + (j + 1) = i + 1 + j by omega]
      exact List.mem_cons_of_mem _ (by simpa [trV, Value.category] using this)
  | .inr (.inr x) :: as, n, i, j, w, h => by
    cases j with
    | zero => cases h; exact List.mem_cons_self
    | succ j =>
      have := lvV_ent g as (n - 1) (i + 1) j w h
      rw [show i + (j + 1) = i + 1 + j by omega]
      exact List.mem_cons_of_mem _ (by simpa [trV, Value.category] using this)
  | .inr (.inl x) :: as, n, i, j, w, h => by
    cases j with
    | zero => cases h; exact List.mem_cons_self
    | succ j =>
      cases j with
      | zero => cases h
      | succ j =>
        have := lvV_ent g as (n - 2) (i + 2) j w h
        rw [show i + (j + 1 + 1) = i + 2 + j by omega]
        exact List.mem_cons_of_mem _ (by simpa [trV, Value.category] using this)
theorem lvl_ent {g : GC} {as : List PV} {n : Nat} (h : cats as ≤ n) : lv_has ((lg_sl (as.map (trV g)) ++ List.replicate (n - (lg_sl (as.map (trV g))).length) Slot.unset).toArray) n (lvl g (entL n as)) := by
  have h0 := lv_entry (as.map (trV g)) (n := n) (by rw [lg_cats]; exact h)
  refine ⟨h0.1, h0.2.1, fun q hq => h0.2.2 q ?_⟩
  rw [lvl_mem] at hq
  have := lvV_ent g as n 0 q.1 q.2 hq
  rwa [Nat.zero_add] at this
