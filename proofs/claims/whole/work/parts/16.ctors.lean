/-! the constructors on the machine -/
theorem wsC_at (g : GC) (cs : CWd) {o : Nat} {c : CCell} (h : cs[o]? = some c) : (wsC g cs)[o]? = some (g.2.2 o, encC g c) := by
  have hl := (List.getElem?_eq_some_iff.mp h).1
  unfold wsC
  rw [List.getElem?_map, List.getElem?_range hl]
  show some (g.2.2 o, encC g (cs.getD o c00)) = _
  rw [List.getD_eq_getElem?_getD, h]
  rfl
theorem wsC_push (g : GC) (cs : CWd) (c : CCell) : wsC g (cs ++ [c]) = wsC g cs ++ [(g.2.2 cs.length, encC g c)] := by
  unfold wsC
  rw [List.length_append, List.length_singleton, List.range_succ, List.map_append, List.map_singleton]
  congr 1
  · apply List.map_congr_left
    intro o ho
    rw [List.getD_eq_getElem?_getD, List.getElem?_append_left (List.mem_range.mp ho), ← List.getD_eq_getElem?_getD]
  · rw [List.getD_eq_getElem?_getD, List.getElem?_append_right (Nat.le_refl _), Nat.sub_self]
    rfl
theorem wsC_set (g : GC) (cs : CWd) (a : Nat) (c : CCell) (h : a < cs.length) : (wsC g cs).set a (g.2.2 a, encC g c) = wsC g (cs.set a c) := by
  apply List.ext_getElem?
  intro i
  rw [List.getElem?_set]
  have hl : (wsC g cs).length = cs.length := by simp [wsC]
  by_cases hi : i < cs.length
  · obtain ⟨d, hd⟩ : ∃ d, (cs.set a c)[i]? = some d := ⟨_, List.getElem?_eq_getElem (by simpa using hi)⟩
    rw [wsC_at g _ hd]
    rw [List.getElem?_set] at hd
    by_cases hia : a = i
    · subst hia
      rw [if_pos rfl, if_pos hi] at hd
      rw [if_pos rfl, if_pos (by rw [hl]; exact hi), Option.some.inj hd]
    · rw [if_neg hia] at hd
      rw [if_neg hia, wsC_at g _ hd]
  · have e1 : (wsC g (cs.set a c))[i]? = none := List.getElem?_eq_none (by simp [wsC]; omega)
    have e2 : (wsC g cs)[i]? = none := List.getElem?_eq_none (by rw [hl]; omega)
    rw [e1, e2, if_neg (by omega)]
theorem totS_push (cs : CWd) (c : CCell) : totS (cs ++ [c]) = totS cs + slC c := by
  unfold totS
  simp
theorem totS_set {cs : CWd} {a : Nat} {c d : CCell} (h : cs[a]? = some c) (hs : slC d = slC c) : totS (cs.set a d) = totS cs := by
  unfold totS
  congr 1
  apply List.ext_getElem?
  intro i
  rw [List.getElem?_map, List.getElem?_map, List.getElem?_set]
  by_cases hia : a = i
  · subst hia
    rw [if_pos rfl, if_pos (List.getElem?_eq_some_iff.mp h).1, h]
    simp [hs]
  · rw [if_neg hia]
def cyT : List (MethodName × ByteArray) := [(yX0_init, cX0_init), (yX1_init, cX1_init), (yX2_init, cX2_init), (yX3_init, cX3_init), (yX4_init, cX4_init), (yX5_init, cX5_init), (yX6_init, cX6_init), (yX7_init, cX7_init), (yX8_init, cX8_init), (yX9_init, cX9_init), (yX10_init, cX10_init), (yX11_init, cX11_init)]
def cY (k : Nat) : MethodName := (cyT.getD k (⟨"", "", ""⟩, ⟨#[]⟩)).1
def cCc (k : Nat) : ByteArray := (cyT.getD k (⟨"", "", ""⟩, ⟨#[]⟩)).2
def cfrT : List Nat := [1, 3, 1, 1, 1, 1, 1, 1, 2, 1, 4, 1]
def cFr (k : Nat) : Nat := cfrT.getD k 0
def cloT : List Nat := [20, 61, 20, 20, 20, 20, 20, 20, 40, 20, 81, 20]
def cLo (k : Nat) : Nat := cloT.getD k 0
def cCw (k : Nat) : Cond := .code (cY k) (cCc k) (cML k) none
set_option maxRecDepth 100000 in
theorem cC_r : [cCw 0, cCw 1, cCw 2, cCw 3, cCw 4, cCw 5, cCw 6, cCw 7, cCw 8, cCw 9, cCw 10, cCw 11] = [407, 286, 418, 337, 388, 271, 150, 368, 143, 327, 135, 1099].filterMap (fun i => lw_tbl[i]?) := rfl
set_option maxRecDepth 100000 in
theorem oI_r : [Cond.code objectInit ⟨#[0xb1]⟩ 1 none] = [138].filterMap (fun i => lw_tbl[i]?) := rfl
theorem cC_g : ∀ k, k < 12 → cCw k ∈ tblG := by
  intro k hk
  refine List.mem_filter.mpr ⟨fm_in cC_r ?_, rfl⟩
  match k, hk with
  | 0, _ => simp
  | 1, _ => simp
  | 2, _ => simp
  | 3, _ => simp
  | 4, _ => simp
  | 5, _ => simp
  | 6, _ => simp
  | 7, _ => simp
  | 8, _ => simp
  | 9, _ => simp
  | 10, _ => simp
  | 11, _ => simp
theorem oI_g : Cond.code objectInit ⟨#[0xb1]⟩ 1 none ∈ tblG := List.mem_filter.mpr ⟨fm_in oI_r (by simp), rfl⟩
def inG (w : Cond) : Bool := decide (w ∈ lw_tbl) && goodWord w
def inN (w : Cond) : Bool := decide (w ∈ lw_tbl) && isNest w
theorem inG_m {w : Cond} (h : inG w = true) : w ∈ tblG := by
  unfold inG at h
  rw [Bool.and_eq_true, decide_eq_true_eq] at h
  exact List.mem_filter.mpr h
theorem inN_m {w : Cond} (h : inN w = true) : w ∈ tblN := by
  unfold inN at h
  rw [Bool.and_eq_true, decide_eq_true_eq] at h
  exact List.mem_filter.mpr h
def okC (k pc n : Nat) (aux : List Nat) (z : Int) : Instr → Bool
  | .iconst v => decide (n = 1 ∧ z = v ∧ -2147483648 ≤ z ∧ z < 2147483648)
  | .bipush v => decide (n = 2 ∧ (Int8.ofInt v).toInt32 = i32 z ∧ -2147483648 ≤ z ∧ z < 2147483648)
  | .sipush v => decide (n = 3 ∧ (Int16.ofInt v).toInt32 = i32 z ∧ -2147483648 ≤ z ∧ z < 2147483648)
  | .lconst v => decide (n = 1 ∧ z = ((v.val : Nat) : Int))
  | .istore_n v => decide (n = 1 ∧ v.val < cML k)
  | .iinc v c => decide (n = 3 ∧ z = c ∧ v < cML k)
  | .newarray .int => decide (n = 2) && inG (.arrayClass .int)
  | .newarray .boolean => decide (n = 2) && inG (.arrayClass .boolean)
  | .anewarray v => (match aux with
    | [2] => decide (n = 3) && inG (.classLink (cn k) v "OddShoes$Person")
    | [3] => decide (n = 3) && inG (.classLink (cn k) v "OddShoes$Valley")
    | _ => false)
  | .new v => (match aux with
    | [ci] => decide (n = 3 ∧ ci < 12) && inG (.classLink (cn k) v (cn ci)) && inG (.instantiable (cn ci) (nfld ci)) && inG (.initialized (cn ci))
    | _ => false)
  | .putfield v => (match aux with
    | [ci, kk, kd] => decide (n = 3 ∧ ci = k ∧ kk < nfld ci ∧ fknd ci kk = kd) && inG (.fieldLink (cn k) v (cn ci) ((fT ci) kk).2.1 ((fT ci) kk).2.2.1)
    | _ => false)
  | .getfield v => (match aux with
    | [ci, kk, kd] => decide (n = 3 ∧ ci = k ∧ kk < nfld ci ∧ fknd ci kk = kd) && inG (.fieldLink (cn k) v (cn ci) ((fT ci) kk).2.1 ((fT ci) kk).2.2.1)
    | _ => false)
  | .if_icmp _ off => (match aux with
    | [t] => decide (n = 3 ∧ (pc : Int) + off = (t : Int))
    | _ => false)
  | .goto off => (match aux with
    | [t] => decide (n = 3 ∧ (pc : Int) + off = (t : Int))
    | _ => false)
  | .invokespecial v => (match aux with
    | [] => decide (n = 3 ∧ 1 ≤ cFr k ∧ 20 ≤ cLo k) && inG (.methodLink (cn k) v objectInit) && inG (.instanceMethod objectInit)
    | [kc] => decide (n = 3 ∧ kc < 12 ∧ cFr kc + 1 ≤ cFr k ∧ 8 + (cML kc + 11) + cLo kc ≤ cLo k ∧ 1 ≤ cML kc) && inN (.methodLinkNest (cn k) v (cY kc) "OddShoes") && inG (.initialized (cY kc).cls) && inG (.instanceMethod (cY kc))
    | _ => false)
  | _ => decide (n = 1)
def okCs : Bool := (List.range 12).all (fun k => (cinsT.getD k []).all (fun q => decide (decode (cCc k) q.1 = .ok (q.2.1, q.2.2.1)) && okC k q.1 q.2.2.1 q.2.2.2.1 q.2.2.2.2 q.2.1))
set_option maxRecDepth 100000 in
theorem okCs_ok : okCs = true := by decide +kernel
