/-! ROUND: all rows of a set, in their order -/
section Prm
def prm : Nat → Nat → List (List Nat)
  | 0, _ => [[]]
  | k + 1, A => if A = 0 then [[]] else ((List.range 6).filter (fun b => A.testBit b)).flatMap (fun b => (prm k (A - 2 ^ b)).map (fun r => b :: r))
def chk : List (List Nat) → Bool
  | [] => false
  | [l] => pvt l (l.length - 1) == 0
  | l :: r :: rs => (pvt l (l.length - 1) != 0) && (nx1 l (pvt l (l.length - 1)) == r) && chk (r :: rs)
theorem prm_chk : ∀ A : Nat, A < 64 → chk (prm 6 A) = true := by decide +kernel
end Prm
