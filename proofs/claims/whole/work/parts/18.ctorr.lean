/-! the constructors' runs -/
theorem trO {g : GC} {base o : Nat} {cs : CWd} {s : State} {H : Heap} {locs : List Loc} (hw : WC g base cs s H locs) (h : o < 104) : trV g (xR o) = .ref (base + o) := by
  show Value.ref (g.2.2 o) = _
  rw [hw.2.2.2.2.2.1 o h]
theorem insC_ok {k pc n : Nat} {i : Instr} {aux : List Nat} {z : Int} (h : insC k pc = some (i, n, aux, z)) : k < 12 ∧ decode (cCc k) pc = .ok (i, n) ∧ okC k pc n aux z i = true := by
  have hm : ∀ (l : List (Nat × Instr × Nat × List Nat × Int)), insC.findC l pc = some (i, n, aux, z) → (pc, i, n, aux, z) ∈ l := by
    intro l
    induction l with
    | nil => intro h; cases h
    | cons q l ih =>
      intro h
      obtain ⟨q1, q2⟩ := q
      unfold insC.findC at h
      cases hq : Nat.beq q1 pc with
      | true =>
        rw [hq] at h
        have e := Nat.eq_of_beq_eq_true hq
        subst e
        cases h
        exact List.mem_cons_self
      | false => rw [hq] at h; exact List.mem_cons_of_mem _ (ih h)
  have hk : k < 12 := by
    rcases Nat.lt_or_ge k 12 with q | q
    · exact q
    · unfold insC at h
      rw [List.getD_eq_getElem?_getD, List.getElem?_eq_none (show cinsT.length ≤ k from q)] at h
      cases h
  have h1 := hm _ h
  have h2 := List.all_eq_true.mp (List.all_eq_true.mp okCs_ok k (List.mem_range.mpr hk)) _ h1
  rw [Bool.and_eq_true, decide_eq_true_eq] at h2
  exact ⟨hk, h2.1, h2.2⟩
theorem okSC_tl {k : Nat} {ls : LSt} {v : PV} {st : List PV} (h : okSC k ls (v :: st)) : okSC k ls st := ⟨h.1, fun w hw => h.2.1 w (List.mem_cons_of_mem _ hw), h.2.2⟩
theorem okSC_cons {k : Nat} {ls : LSt} {v : PV} {st : List PV} (h : okSC k ls st) (hv : okV v) : okSC k ls (v :: st) := ⟨h.1, fun w hw => by
  rcases List.mem_cons.mp hw with e | e
  · rw [e]; exact hv
  · exact h.2.1 w e, h.2.2⟩
theorem okSC_hd {k : Nat} {ls : LSt} {v : PV} {st : List PV} (h : okSC k ls (v :: st)) : okV v := h.2.1 v List.mem_cons_self
theorem okSC_stn {k i : Nat} {ls : LSt} {v : PV} {st : List PV} (h : okSC k ls st) (hv : okV v) : okSC k (stn ls i (some v)) st := ⟨by rw [stn_len]; exact h.1, h.2.1, fun j w hj => by
  rw [nth_stn] at hj
  split at hj
  · cases hj; exact hv
  · exact h.2.2 j w hj⟩
def cGrow (f : Nat) : Prop := ∀ (k pc : Nat) (ls : LSt) (st : List PV) (cs cs' : CWd), runC f k pc ls st cs = some cs' → cs.length ≤ cs'.length ∧ totS cs ≤ totS cs'
theorem stepC_grow {k pc n : Nat} {ls ls' : LSt} {st st' : List PV} {cs cs' : CWd} {i : Instr} {aux : List Nat} {z : Int} {pc' : Nat} (h : stepC k pc ls st cs i n aux z = some (.inl (pc', ls', st', cs'))) : cs.length ≤ cs'.length ∧ totS cs ≤ totS cs' := by
  have new : ∀ {pc ls st} {c : CCell}, newC pc ls st cs c = some (.inl (pc', ls', st', cs')) → cs.length ≤ cs'.length ∧ totS cs ≤ totS cs' := by
    intro pc ls st c h
    unfold newC goC at h
    split at h
    · cases h; rw [totS_push]; exact ⟨by simp, by omega⟩
    · cases h
  have go : ∀ {pc ls st} {d : CWd}, goC pc ls st d = some (.inl (pc', ls', st', cs')) → d = cs' := by
    intro pc ls st d h; unfold goC at h; cases h; rfl
  have same : ∀ {pc ls st}, goC pc ls st cs = some (.inl (pc', ls', st', cs')) → cs.length ≤ cs'.length ∧ totS cs ≤ totS cs' := by
    intro pc ls st h; rw [← go h]; exact ⟨Nat.le_refl _, Nat.le_refl _⟩
  have set : ∀ {pc ls st} {a : Nat} {c d : CCell}, cs[a]? = some c → slC d = slC c → goC pc ls st (cs.set a d) = some (.inl (pc', ls', st', cs')) → cs.length ≤ cs'.length ∧ totS cs ≤ totS cs' := by
    intro pc ls st a c d h1 h2 h; rw [← go h, totS_set h1 h2]; exact ⟨by simp, Nat.le_refl _⟩
  have sl : ∀ (c : CCell) (a b : Nat) (x : Int) (y : Option Nat), slC (c.1, c.2.1.set a x, c.2.2) = slC c ∧ slC (c.1, c.2.1, c.2.2.set b y) = slC c := by
    intro c a b x y
    unfold slC
    exact ⟨by dsimp only; split <;> simp, by dsimp only; split <;> simp⟩
  unfold stepC at h
  split at h
  all_goals (first | (cases h; done) | skip)
  all_goals (try (split at h))
  all_goals (first | (cases h; done) | exact same h | skip)
  all_goals (try (split at h))
  all_goals (first | (cases h; done) | exact same h | exact new h | skip)
  all_goals (try (split at h))
  all_goals (first | (cases h; done) | exact same h | exact new h | skip)
  all_goals (first | exact set (by assumption) (sl _ _ 0 _ none).1 h | exact set (by assumption) (sl _ 0 _ 0 _).2 h | skip)
  all_goals (try (split at h))
  all_goals (first | (cases h; done) | exact same h | skip)
theorem cGrow_all : ∀ f, cGrow f
  | 0 => fun k pc ls st cs cs' h => by cases h
  | f + 1 => by
    intro k pc ls st cs cs' h
    unfold runC at h
    split at h
    · cases h
    · split at h
      · cases h
      next hs =>
        have a := stepC_grow hs
        have b := cGrow_all f _ _ _ _ _ _ h
        exact ⟨by omega, by omega⟩
      · cases h; exact ⟨Nat.le_refl _, Nat.le_refl _⟩
      · split at h
        next hr =>
          have a := cGrow_all f _ _ _ _ _ _ hr
          have b := cGrow_all f _ _ _ _ _ _ h
          exact ⟨by omega, by omega⟩
        · cases h
