/-! A small machine over offsets: what a block of instructions needs in order to come to a post-condition. Numbers are Int (in range), cells are offsets. -/
abbrev PV : Type := Int ⊕ Int ⊕ Nat
abbrev xI (x : Int) : PV := Sum.inl x
abbrev xL (x : Int) : PV := Sum.inr (Sum.inl x)
abbrev xR (a : Nat) : PV := Sum.inr (Sum.inr a)
abbrev Mem : Type := Nat → Nat → Int
abbrev LSt : Type := List (Option PV)
abbrev MI : Type := Nat × Instr × List Nat × Int
abbrev PQ : Type := Option PV → Mem → Prop
def in32 (x : Int) : Prop := -2147483648 ≤ x ∧ x < 2147483648
def in64 (x : Int) : Prop := -9223372036854775808 ≤ x ∧ x < 9223372036854775808
abbrev i32 (x : Int) : Int32 := Int32.ofInt x
abbrev i64 (x : Int) : Int64 := Int64.ofInt x
def w32 (x : Int) : Int := (Int32.ofInt x).toInt
def w64 (x : Int) : Int := (Int64.ofInt x).toInt
def and32 (x y : Int) : Int := (i32 x &&& i32 y).toInt
def or32 (x y : Int) : Int := (i32 x ||| i32 y).toInt
def xor32 (x y : Int) : Int := (i32 x ^^^ i32 y).toInt
def shl32 (x y : Int) : Int := (i32 x <<< (i32 y &&& 31)).toInt
def shr32 (x y : Int) : Int := (i32 x >>> (i32 y &&& 31)).toInt
def ush32 (x y : Int) : Int := ((i32 x).toUInt32 >>> ((i32 y).toUInt32 &&& Int32.toUInt32 31)).toInt32.toInt
def cmpL (x y : Int) : Int := if y < x then 1 else if x = y then 0 else -1
def up (σ : Mem) (a i : Nat) (x : Int) : Mem := fun b j => if b = a ∧ j = i then x else σ b j
def nth : LSt → Nat → Option PV
  | [], _ => none
  | x :: _, 0 => x
  | _ :: l, n + 1 => nth l n
def stn : LSt → Nat → Option PV → LSt
  | [], _, _ => []
  | _ :: l, 0, v => v :: l
  | x :: l, n + 1, v => x :: stn l n v
/-! the kinds of the cells: 0 a row of ints, 1 a row of booleans, 2 a row of Persons, 3 a row of Valleys, 9 the script, 10 + c an object of class c -/
def tagT : List Nat := [20, 18, 0, 0, 0, 0, 0, 0, 0, 0, 2, 16, 16, 16, 16, 16, 3, 1, 15, 0, 11, 18, 0, 0, 0, 0, 0, 0, 0, 0, 2, 16, 16, 16, 16, 16, 19, 0, 13, 17, 0, 0, 14, 10, 12, 18, 0, 0, 0, 0, 0, 0, 0, 0, 2, 16, 16, 16, 16, 16, 18, 0, 0, 0, 0, 0, 0, 0, 0, 2, 16, 16, 16, 16, 16, 21, 0, 0, 0, 0, 0, 0, 0, 0, 0, 0, 0, 0, 0, 0, 0, 0, 0, 0, 0, 0, 0, 0, 0, 0, 0, 0, 0, 1, 9]
def tag (o : Nat) : Nat := tagT.getD o 8
def lenT : List Nat := [0, 0, 15, 15, 45, 6, 6, 30, 6, 6, 4, 0, 0, 0, 0, 0, 2, 2, 0, 60, 0, 0, 15, 15, 45, 6, 6, 30, 6, 6, 4, 0, 0, 0, 0, 0, 0, 72, 0, 0, 384, 6, 0, 0, 0, 0, 15, 15, 45, 6, 6, 30, 6, 6, 4, 0, 0, 0, 0, 0, 0, 15, 15, 45, 6, 6, 30, 6, 6, 4, 0, 0, 0, 0, 0, 0, 36, 36, 108, 6, 6, 30, 4, 8, 4, 4, 4, 8, 4, 12, 60, 4, 4, 4, 8, 4, 30, 108, 72, 36, 6, 6, 640, 2]
def len0 (o : Nat) : Nat := lenT.getD o 0
def tgtT : List (List Nat) := [[1, 16, 17, 18, 20, 36, 38, 39, 42, 43, 44], [0, 0, 0, 0, 2, 3, 4, 5, 6, 7, 8, 9, 10, 11], [], [], [], [], [], [], [], [], [12, 13, 14, 15], [], [], [], [], [], [45, 60], [], [19], [], [21], [0, 0, 0, 0, 22, 23, 24, 25, 26, 27, 28, 29, 30, 31], [], [], [], [], [], [], [], [], [32, 33, 34, 35], [], [], [], [], [], [37], [], [], [40, 41], [], [], [], [], [], [0, 0, 0, 0, 46, 47, 48, 49, 50, 51, 52, 53, 54, 55], [], [], [], [], [], [], [], [], [56, 57, 58, 59], [], [], [], [], [], [0, 0, 0, 0, 61, 62, 63, 64, 65, 66, 67, 68, 69, 70], [], [], [], [], [], [], [], [], [71, 72, 73, 74], [], [], [], [], [], [0, 76, 77, 78, 79, 80, 81, 0, 0, 0, 82, 83, 84, 85, 86, 87, 88, 0, 89, 0, 90, 91, 92, 93, 94, 95, 96, 97, 0, 0, 0, 0, 98, 99, 0, 0, 0, 0, 100, 101, 102, 103], [], [], [], [], [], [], [], [], [], [], [], [], [], [], [], [], [], [], [], [], [], [], [], [], [], [], [], []]
def tgt (o k : Nat) : Nat := (tgtT.getD o []).getD k 0
def lenL (L o : Nat) : Nat := if o = 104 then L else len0 o
/-- what an instruction does: go on; go on if; branch; jump; switch; return; return if; call; nothing -/
abbrev Act : Type := (LSt × List PV × Mem) ⊕ (Prop × LSt × List PV × Mem) ⊕ (Prop × Nat × LSt × List PV × Mem) ⊕ (Nat × LSt × List PV × Mem) ⊕ (Int × Int × Nat × List Nat × LSt × List PV × Mem) ⊕ (Option PV × Mem) ⊕ (Prop × Option PV × Mem) ⊕ (Prop × Nat × List PV × Nat × List PV × LSt × Mem) ⊕ Unit
abbrev aGo (ls : LSt) (st : List PV) (σ : Mem) : Act := Sum.inl (ls, st, σ)
abbrev aIf (p : Prop) (ls : LSt) (st : List PV) (σ : Mem) : Act := Sum.inr (Sum.inl (p, ls, st, σ))
abbrev aBr (p : Prop) (t : Nat) (ls : LSt) (st : List PV) (σ : Mem) : Act := Sum.inr (Sum.inr (Sum.inl (p, t, ls, st, σ)))
abbrev aJp (t : Nat) (ls : LSt) (st : List PV) (σ : Mem) : Act := Sum.inr (Sum.inr (Sum.inr (Sum.inl (t, ls, st, σ))))
abbrev aSw (x lo : Int) (d : Nat) (ts : List Nat) (ls : LSt) (st : List PV) (σ : Mem) : Act := Sum.inr (Sum.inr (Sum.inr (Sum.inr (Sum.inl (x, lo, d, ts, ls, st, σ)))))
abbrev aRt (r : Option PV) (σ : Mem) : Act := Sum.inr (Sum.inr (Sum.inr (Sum.inr (Sum.inr (Sum.inl (r, σ))))))
abbrev aRb (p : Prop) (r : Option PV) (σ : Mem) : Act := Sum.inr (Sum.inr (Sum.inr (Sum.inr (Sum.inr (Sum.inr (Sum.inl (p, r, σ)))))))
abbrev aCl (p : Prop) (k : Nat) (as : List PV) (rk : Nat) (rest : List PV) (ls : LSt) (σ : Mem) : Act := Sum.inr (Sum.inr (Sum.inr (Sum.inr (Sum.inr (Sum.inr (Sum.inr (Sum.inl (p, k, as, rk, rest, ls, σ))))))))
abbrev aNo : Act := Sum.inr (Sum.inr (Sum.inr (Sum.inr (Sum.inr (Sum.inr (Sum.inr (Sum.inr ())))))))
def retI (r : Option PV) (k : Int → Prop) : Prop := match r with
  | some (.inl x) => k x
  | _ => False
def retL (r : Option PV) (k : Int → Prop) : Prop := match r with
  | some (.inr (.inl x)) => k x
  | _ => False
def retR (r : Option PV) (k : Nat → Prop) : Prop := match r with
  | some (.inr (.inr x)) => k x
  | _ => False
def retV (r : Option PV) (k : Prop) : Prop := match r with
  | none => k
  | _ => False
def pushK (rk : Nat) (r : Option PV) (rest : List PV) (k : List PV → Prop) : Prop := match rk with
  | 0 => retV r (k rest)
  | 1 => retI r (fun x => k (xI x :: rest))
  | 2 => retL r (fun x => k (xL x :: rest))
  | 3 => retR r (fun x => k (xR x :: rest))
  | _ => False
def swK (J : Nat → Prop) (d : Nat) (x : Int) : Int → List Nat → Prop
  | _, [] => J d
  | lo, t :: ts => (x = lo → J t) ∧ (¬ x = lo → swK J d x (lo + 1) ts)
def wpA (J : Nat → LSt → List PV → Mem → Prop) (Rt : PQ) (C : Nat → List PV → Mem → PQ → Prop) (K : LSt → List PV → Mem → Prop) (a : Act) : Prop := match a with
  | .inl (ls, st, σ) => K ls st σ
  | .inr (.inl (p, ls, st, σ)) => p ∧ K ls st σ
  | .inr (.inr (.inl (p, t, ls, st, σ))) => (p → J t ls st σ) ∧ (¬ p → K ls st σ)
  | .inr (.inr (.inr (.inl (t, ls, st, σ)))) => J t ls st σ
  | .inr (.inr (.inr (.inr (.inl (x, lo, d, ts, ls, st, σ))))) => swK (fun t => J t ls st σ) d x lo ts
  | .inr (.inr (.inr (.inr (.inr (.inl (r, σ)))))) => Rt r σ
  | .inr (.inr (.inr (.inr (.inr (.inr (.inl (p, r, σ))))))) => p ∧ Rt r σ
  | .inr (.inr (.inr (.inr (.inr (.inr (.inr (.inl (p, k, as, rk, rest, ls, σ)))))))) => p ∧ C k as σ (fun r σ' => pushK rk r rest (fun st' => K ls st' σ'))
  | _ => False
def aLdI (ls : LSt) (n : Nat) (st : List PV) (σ : Mem) : Act := match nth ls n with
  | some (.inl x) => aGo ls (xI x :: st) σ
  | _ => aNo
def aLdL (ls : LSt) (n : Nat) (st : List PV) (σ : Mem) : Act := match nth ls n, nth ls (n + 1) with
  | some (.inr (.inl x)), none => aGo ls (xL x :: st) σ
  | _, _ => aNo
def aLdR (ls : LSt) (n : Nat) (st : List PV) (σ : Mem) : Act := match nth ls n with
  | some (.inr (.inr x)) => aGo ls (xR x :: st) σ
  | _ => aNo
def aStI (ls : LSt) (n : Nat) (st : List PV) (σ : Mem) : Act := match st with
  | .inl x :: r => aGo (stn ls n (some (xI x))) r σ
  | _ => aNo
def aStL (ls : LSt) (n : Nat) (st : List PV) (σ : Mem) : Act := match st with
  | .inr (.inl x) :: r => aGo (stn (stn ls n (some (xL x))) (n + 1) none) r σ
  | _ => aNo
def aStR (ls : LSt) (n : Nat) (st : List PV) (σ : Mem) : Act := match st with
  | .inr (.inr x) :: r => aGo (stn ls n (some (xR x))) r σ
  | _ => aNo
def aII (f : Int → Int → Int) (ls : LSt) (st : List PV) (σ : Mem) : Act := match st with
  | .inl y :: .inl x :: r => aGo ls (xI (f x y) :: r) σ
  | _ => aNo
def aDv (f : Int → Int → Int) (ls : LSt) (st : List PV) (σ : Mem) : Act := match st with
  | .inl y :: .inl x :: r => aIf (y ≠ 0) ls (xI (f x y) :: r) σ
  | _ => aNo
def aLL (f : Int → Int → Int) (ls : LSt) (st : List PV) (σ : Mem) : Act := match st with
  | .inr (.inl y) :: .inr (.inl x) :: r => aGo ls (xL (f x y) :: r) σ
  | _ => aNo
def aDL (f : Int → Int → Int) (ls : LSt) (st : List PV) (σ : Mem) : Act := match st with
  | .inr (.inl y) :: .inr (.inl x) :: r => aIf (y ≠ 0) ls (xL (f x y) :: r) σ
  | _ => aNo
def aB1 (f : Int → Prop) (t : List Nat) (ls : LSt) (st : List PV) (σ : Mem) : Act := match st, t with
  | .inl x :: r, [t] => aBr (f x) t ls r σ
  | _, _ => aNo
def aB2 (f : Int → Int → Prop) (t : List Nat) (ls : LSt) (st : List PV) (σ : Mem) : Act := match st, t with
  | .inl y :: .inl x :: r, [t] => aBr (f x y) t ls r σ
  | _, _ => aNo
def cats : List PV → Nat
  | [] => 0
  | .inr (.inl _) :: r => cats r + 2
  | .inl _ :: r => cats r + 1
  | .inr (.inr _) :: r => cats r + 1
def popN : Nat → List PV → List PV → Option (List PV × List PV)
  | 0, acc, st => some (acc, st)
  | n + 1, acc, v :: st => popN n (v :: acc) st
  | _ + 1, _, [] => none
def aGet (aux : List Nat) (ls : LSt) (st : List PV) (σ : Mem) : Act := match st, aux with
  | .inr (.inr a) :: r, [ci, k, kd, _] => (match kd with
    | 0 => aIf (tag a = 10 + ci) ls (xI (σ a k) :: r) σ
    | 1 => aIf (tag a = 10 + ci) ls (xI (σ a k) :: r) σ
    | 2 => aIf (tag a = 10 + ci) ls (xL (σ a k) :: r) σ
    | _ => aIf (tag a = 10 + ci) ls (xR (tgt a k) :: r) σ)
  | _, _ => aNo
def aPut (aux : List Nat) (ls : LSt) (st : List PV) (σ : Mem) : Act := match st, aux with
  | .inl x :: .inr (.inr a) :: r, [ci, k, kd, _] => (match kd with
    | 0 => aIf (tag a = 10 + ci) ls r (up σ a k x)
    | 1 => aIf (tag a = 10 + ci ∧ (x = 0 ∨ x = 1)) ls r (up σ a k x)
    | _ => aNo)
  | .inr (.inl x) :: .inr (.inr a) :: r, [ci, k, kd, _] => (match kd with
    | 2 => aIf (tag a = 10 + ci) ls r (up σ a k x)
    | _ => aNo)
  | _, _ => aNo
def aCall (virt : Bool) (aux : List Nat) (ls : LSt) (st : List PV) (σ : Mem) : Act := match aux with
  | [k, n, rk, tg, ml] => (match popN n [] st with
    | some (as, rest) => (match Nat.ble (cats rest) 8, Nat.ble (cats as) ml, virt, as with
      | true, true, false, as => aCl True k as rk rest ls σ
      | true, true, true, .inr (.inr a) :: as => aCl (tag a = tg) k (xR a :: as) rk rest ls σ
      | _, _, _, _ => aNo)
    | none => aNo)
  | _ => aNo
def fAbs (x : Int) : Int := if 0 ≤ x then x else w32 (0 - x)
def fMax (x y : Int) : Int := if x < y then y else x
def fMin (x y : Int) : Int := if y < x then y else x
def aP1 (f : Int → Int) (ls : LSt) (st : List PV) (σ : Mem) : Act := match st with
  | .inl x :: r => (match Nat.ble (cats r) 8 with
    | true => aGo ls (xI (f x) :: r) σ
    | false => aNo)
  | _ => aNo
def aP2 (f : Int → Int → Int) (ls : LSt) (st : List PV) (σ : Mem) : Act := match st with
  | .inl y :: .inl x :: r => (match Nat.ble (cats r) 8 with
    | true => aGo ls (xI (f x y) :: r) σ
    | false => aNo)
  | _ => aNo
def act (len : Nat → Nat) (i : Instr) (aux : List Nat) (z : Int) (ls : LSt) (st : List PV) (σ : Mem) : Act := match i with
  | .iconst _ => aGo ls (xI z :: st) σ
  | .bipush _ => aGo ls (xI z :: st) σ
  | .sipush _ => aGo ls (xI z :: st) σ
  | .ldc _ => aGo ls (xI z :: st) σ
  | .ldc_w _ => aGo ls (xI z :: st) σ
  | .lconst _ => aGo ls (xL z :: st) σ
  | .ldc2_w _ => aGo ls (xL z :: st) σ
  | .iload n => aLdI ls n st σ
  | .iload_n n => aLdI ls n.val st σ
  | .lload n => aLdL ls n st σ
  | .lload_n n => aLdL ls n.val st σ
  | .aload n => aLdR ls n st σ
  | .aload_n n => aLdR ls n.val st σ
  | .istore n => aStI ls n st σ
  | .istore_n n => aStI ls n.val st σ
  | .lstore n => aStL ls n st σ
  | .lstore_n n => aStL ls n.val st σ
  | .astore n => aStR ls n st σ
  | .astore_n n => aStR ls n.val st σ
  | .iinc n _ => (match nth ls n with
    | some (.inl x) => aGo (stn ls n (some (xI (w32 (x + z))))) st σ
    | _ => aNo)
  | .iadd => aII (fun x y => w32 (x + y)) ls st σ
  | .isub => aII (fun x y => w32 (x - y)) ls st σ
  | .imul => aII (fun x y => w32 (x * y)) ls st σ
  | .idiv => aDv (fun x y => w32 (x.tdiv y)) ls st σ
  | .irem => aDv (fun x y => x.tmod y) ls st σ
  | .iand => aII and32 ls st σ
  | .ior => aII or32 ls st σ
  | .ixor => aII xor32 ls st σ
  | .ishl => aII shl32 ls st σ
  | .ishr => aII shr32 ls st σ
  | .iushr => aII ush32 ls st σ
  | .ineg => (match st with
    | .inl x :: r => aGo ls (xI (w32 (-x)) :: r) σ
    | _ => aNo)
  | .ladd => aLL (fun x y => w64 (x + y)) ls st σ
  | .lsub => aLL (fun x y => w64 (x - y)) ls st σ
  | .lmul => aLL (fun x y => w64 (x * y)) ls st σ
  | .ldiv => aDL (fun x y => w64 (x.tdiv y)) ls st σ
  | .lrem => aDL (fun x y => x.tmod y) ls st σ
  | .lcmp => (match st with
    | .inr (.inl y) :: .inr (.inl x) :: r => aGo ls (xI (cmpL x y) :: r) σ
    | _ => aNo)
  | .i2l => (match st with
    | .inl x :: r => aGo ls (xL x :: r) σ
    | _ => aNo)
  | .dup => (match st with
    | .inl x :: r => aGo ls (xI x :: xI x :: r) σ
    | .inr (.inr x) :: r => aGo ls (xR x :: xR x :: r) σ
    | _ => aNo)
  | .dup2 => (match st with
    | .inl x :: .inl y :: r => aGo ls (xI x :: xI y :: xI x :: xI y :: r) σ
    | .inl x :: .inr (.inr y) :: r => aGo ls (xI x :: xR y :: xI x :: xR y :: r) σ
    | .inr (.inl x) :: r => aGo ls (xL x :: xL x :: r) σ
    | _ => aNo)
  | .pop => (match st with
    | .inl _ :: r => aGo ls r σ
    | .inr (.inr _) :: r => aGo ls r σ
    | _ => aNo)
  | .getfield _ => aGet aux ls st σ
  | .putfield _ => aPut aux ls st σ
  | .iaload => (match st, aux with
    | .inl i :: .inr (.inr a) :: r, [t] => aIf (tag a = t ∧ 0 ≤ i ∧ i < (len a : Int)) ls (xI (σ a i.toNat) :: r) σ
    | _, _ => aNo)
  | .baload => (match st with
    | .inl i :: .inr (.inr a) :: r => aIf (tag a = 1 ∧ 0 ≤ i ∧ i < (len a : Int)) ls (xI (σ a i.toNat) :: r) σ
    | _ => aNo)
  | .aaload => (match st, aux with
    | .inl i :: .inr (.inr a) :: r, [t] => aIf (tag a = t ∧ 0 ≤ i ∧ i < (len a : Int)) ls (xR (tgt a i.toNat) :: r) σ
    | _, _ => aNo)
  | .iastore => (match st with
    | .inl x :: .inl i :: .inr (.inr a) :: r => aIf (tag a = 0 ∧ 0 ≤ i ∧ i < (len a : Int)) ls r (up σ a i.toNat x)
    | _ => aNo)
  | .bastore => (match st with
    | .inl x :: .inl i :: .inr (.inr a) :: r => aIf (tag a = 1 ∧ (0 ≤ i ∧ i < (len a : Int)) ∧ (x = 0 ∨ x = 1)) ls r (up σ a i.toNat x)
    | _ => aNo)
  | .arraylength => (match st, aux with
    | .inr (.inr a) :: r, [t] => aIf (tag a = t) ls (xI (len a) :: r) σ
    | _, _ => aNo)
  | .ifCond .eq _ => aB1 (fun x => x = 0) aux ls st σ
  | .ifCond .ne _ => aB1 (fun x => ¬ x = 0) aux ls st σ
  | .ifCond .lt _ => aB1 (fun x => x < 0) aux ls st σ
  | .ifCond .ge _ => aB1 (fun x => 0 ≤ x) aux ls st σ
  | .ifCond .gt _ => aB1 (fun x => 0 < x) aux ls st σ
  | .ifCond .le _ => aB1 (fun x => x ≤ 0) aux ls st σ
  | .if_icmp .eq _ => aB2 (fun x y => x = y) aux ls st σ
  | .if_icmp .ne _ => aB2 (fun x y => ¬ x = y) aux ls st σ
  | .if_icmp .lt _ => aB2 (fun x y => x < y) aux ls st σ
  | .if_icmp .ge _ => aB2 (fun x y => y ≤ x) aux ls st σ
  | .if_icmp .gt _ => aB2 (fun x y => y < x) aux ls st σ
  | .if_icmp .le _ => aB2 (fun x y => x ≤ y) aux ls st σ
  | .ifnull _ => (match st with
    | .inr (.inr _) :: r => aGo ls r σ
    | _ => aNo)
  | .ifnonnull _ => (match st, aux with
    | .inr (.inr _) :: r, [t] => aJp t ls r σ
    | _, _ => aNo)
  | .goto _ => (match aux with
    | [t] => aJp t ls st σ
    | _ => aNo)
  | .tableswitch _ _ _ _ => (match st, aux with
    | .inl x :: r, d :: ts => aSw x z d ts ls r σ
    | _, _ => aNo)
  | .ireturn => (match st, aux with
    | [.inl x], [] => aRt (some (xI x)) σ
    | [.inl x], [_] => aRb (x = 0 ∨ x = 1) (some (xI x)) σ
    | _, _ => aNo)
  | .lreturn => (match st with
    | [.inr (.inl x)] => aRt (some (xL x)) σ
    | _ => aNo)
  | .areturn => (match st with
    | [.inr (.inr x)] => aRt (some (xR x)) σ
    | _ => aNo)
  | .return_ => (match st with
    | [] => aRt none σ
    | _ => aNo)
  | .invokestatic _ => (match aux with
    | [0] => aP1 fAbs ls st σ
    | [1] => aP2 fMax ls st σ
    | [2] => aP2 fMin ls st σ
    | aux => aCall false aux ls st σ)
  | .invokevirtual _ => aCall true aux ls st σ
  | _ => aNo
def wpB (len : Nat → Nat) (J : Nat → LSt → List PV → Mem → Prop) (Rt : PQ) (C : Nat → List PV → Mem → PQ → Prop) (ft : Nat) : List MI → LSt → List PV → Mem → Prop
  | [], ls, st, σ => J ft ls st σ
  | (_, i, aux, z) :: is, ls, st, σ => wpA J Rt C (wpB len J Rt C ft is) (act len i aux z ls st σ)
def entL : Nat → List PV → LSt
  | n, [] => List.replicate n none
  | n, .inr (.inl x) :: vs => some (xL x) :: none :: entL (n - 2) vs
  | n, .inl x :: vs => some (xI x) :: entL (n - 1) vs
  | n, .inr (.inr x) :: vs => some (xR x) :: entL (n - 1) vs
