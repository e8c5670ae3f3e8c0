/-! the least judgement that is closed under the blocks -/
abbrev PJ : Type := Nat → Nat → LSt → List PV → Mem → PQ → Prop
def wpM (L : Nat) (P : PJ) (k pc : Nat) (ls : LSt) (st : List PV) (σ : Mem) (Q : PQ) : Prop := match blk k pc with
  | some (ft, is) => wpB (lenL L) (fun t ls st σ => P k t ls st σ Q) Q (fun k' as σ K => P k' 0 (entL (mML k') as) [] σ K) ft is ls st σ
  | none => False
def PMono (P : PJ) : Prop := ∀ (k pc : Nat) (ls : LSt) (st : List PV) (σ : Mem) (Q Q' : PQ), (∀ r s, Q r s → Q' r s) → P k pc ls st σ Q → P k pc ls st σ Q'
def Clo (L : Nat) (P : PJ) : Prop := PMono P ∧ ∀ (k pc : Nat) (ls : LSt) (st : List PV) (σ : Mem) (Q : PQ), wpM L P k pc ls st σ Q → P k pc ls st σ Q
def X (L : Nat) : PJ := fun k pc ls st σ Q => ∀ P : PJ, Clo L P → P k pc ls st σ Q
theorem retI_mono {r : Option PV} {k k' : Int → Prop} (h : ∀ x, k x → k' x) (a : retI r k) : retI r k' := by
  unfold retI at *; split at a
  · exact h _ a
  · exact a
theorem retL_mono {r : Option PV} {k k' : Int → Prop} (h : ∀ x, k x → k' x) (a : retL r k) : retL r k' := by
  unfold retL at *; split at a
  · exact h _ a
  · exact a
theorem retR_mono {r : Option PV} {k k' : Nat → Prop} (h : ∀ x, k x → k' x) (a : retR r k) : retR r k' := by
  unfold retR at *; split at a
  · exact h _ a
  · exact a
theorem retV_mono {r : Option PV} {k k' : Prop} (h : k → k') (a : retV r k) : retV r k' := by
  unfold retV at *; split at a
  · exact h a
  · exact a
theorem pushK_mono {rk : Nat} {r : Option PV} {rest : List PV} {k k' : List PV → Prop} (h : ∀ s, k s → k' s) (a : pushK rk r rest k) : pushK rk r rest k' := by
  unfold pushK at *
  split at a
  · exact retV_mono (h _) a
  · exact retI_mono (fun _ => h _) a
  · exact retL_mono (fun _ => h _) a
  · exact retR_mono (fun _ => h _) a
  · exact a
theorem swK_mono {J J' : Nat → Prop} (h : ∀ t, J t → J' t) {d : Nat} {x : Int} : ∀ (ts : List Nat) (lo : Int), swK J d x lo ts → swK J' d x lo ts
  | [], _, a => h _ a
  | t :: ts, lo, a => ⟨fun e => h _ (a.1 e), fun e => swK_mono h ts (lo + 1) (a.2 e)⟩
theorem wpA_mono {J J' : Nat → LSt → List PV → Mem → Prop} {Rt Rt' : PQ} {C C' : Nat → List PV → Mem → PQ → Prop} {K K' : LSt → List PV → Mem → Prop}
    (hJ : ∀ t ls st σ, J t ls st σ → J' t ls st σ) (hR : ∀ r s, Rt r s → Rt' r s) (hC : ∀ k as σ Q Q', (∀ r s, Q r s → Q' r s) → C k as σ Q → C' k as σ Q') (hK : ∀ ls st σ, K ls st σ → K' ls st σ)
    (a : Act) (h : wpA J Rt C K a) : wpA J' Rt' C' K' a := by
  rcases a with ⟨ls, st, σ⟩ | ⟨p, ls, st, σ⟩ | ⟨p, t, ls, st, σ⟩ | ⟨t, ls, st, σ⟩ | ⟨x, lo, d, ts, ls, st, σ⟩ | ⟨r, σ⟩ | ⟨p, r, σ⟩ | ⟨p, k, as, rk, rest, ls, σ⟩ | u
  · exact hK _ _ _ h
  · exact ⟨h.1, hK _ _ _ h.2⟩
  · exact ⟨fun e => hJ _ _ _ _ (h.1 e), fun e => hK _ _ _ (h.2 e)⟩
  · exact hJ _ _ _ _ h
  · exact swK_mono (fun t => hJ t _ _ _) _ _ h
  · exact hR _ _ h
  · exact ⟨h.1, hR _ _ h.2⟩
  · exact ⟨h.1, hC _ _ _ _ _ (fun r s => pushK_mono (fun st => hK _ st s)) h.2⟩
  · exact h
theorem wpB_mono {len : Nat → Nat} {J J' : Nat → LSt → List PV → Mem → Prop} {Rt Rt' : PQ} {C C' : Nat → List PV → Mem → PQ → Prop} {ft : Nat}
    (hJ : ∀ t ls st σ, J t ls st σ → J' t ls st σ) (hR : ∀ r s, Rt r s → Rt' r s) (hC : ∀ k as σ Q Q', (∀ r s, Q r s → Q' r s) → C k as σ Q → C' k as σ Q') :
    ∀ (is : List MI) (ls : LSt) (st : List PV) (σ : Mem), wpB len J Rt C ft is ls st σ → wpB len J' Rt' C' ft is ls st σ
  | [], ls, st, σ, h => hJ _ _ _ _ h
  | _ :: is, ls, st, σ, h => wpA_mono hJ hR hC (fun ls st σ => wpB_mono hJ hR hC is ls st σ) _ h
theorem wpM_mono {L : Nat} {P P' : PJ} (hm : PMono P') (h : ∀ k pc ls st σ Q, P k pc ls st σ Q → P' k pc ls st σ Q) {k pc : Nat} {ls : LSt} {st : List PV} {σ : Mem} {Q Q' : PQ} (hq : ∀ r s, Q r s → Q' r s) (a : wpM L P k pc ls st σ Q) : wpM L P' k pc ls st σ Q' := by
  unfold wpM at *
  split at a
  · exact wpB_mono (fun t ls st σ e => hm k t ls st σ _ _ hq (h k t ls st σ _ e)) hq (fun k as σ Q Q' q e => hm k 0 (entL (mML k) as) [] σ Q Q' q (h k 0 (entL (mML k) as) [] σ Q e)) _ _ _ _ a
  · exact a
theorem X_mono {L : Nat} : PMono (X L) := fun k pc ls st σ Q Q' hq h P hP => hP.1 _ _ _ _ _ _ _ hq (h P hP)
theorem X_in {L k pc : Nat} {ls : LSt} {st : List PV} {σ : Mem} {Q : PQ} (h : wpM L (X L) k pc ls st σ Q) : X L k pc ls st σ Q := fun P hP => hP.2 _ _ _ _ _ _ (wpM_mono hP.1 (fun k pc ls st σ Q a => a P hP) (fun _ _ a => a) h)
theorem X_clo {L : Nat} : Clo L (X L) := ⟨X_mono, fun _ _ _ _ _ _ h => X_in h⟩
theorem X_out {L k pc : Nat} {ls : LSt} {st : List PV} {σ : Mem} {Q : PQ} (h : X L k pc ls st σ Q) : wpM L (X L) k pc ls st σ Q :=
  h (fun k pc ls st σ Q => wpM L (X L) k pc ls st σ Q) ⟨fun k pc ls st σ Q Q' hq a => wpM_mono X_mono (fun _ _ _ _ _ _ a => a) hq a, fun k pc ls st σ Q a => wpM_mono X_mono (fun k pc ls st σ Q a => X_in a) (fun _ _ a => a) a⟩
theorem X_eq {L k pc ft : Nat} {is : List MI} {ls : LSt} {st : List PV} {σ : Mem} {Q : PQ} (hb : blk k pc = some (ft, is)) {G : Prop} (hG : wpB (lenL L) (fun t ls st σ => X L k t ls st σ Q) Q (fun k' as σ K => X L k' 0 (entL (mML k') as) [] σ K) ft is ls st σ = G) : X L k pc ls st σ Q = G := by
  rw [← hG]
  have e : wpM L (X L) k pc ls st σ Q = wpB (lenL L) (fun t ls st σ => X L k t ls st σ Q) Q (fun k' as σ K => X L k' 0 (entL (mML k') as) [] σ K) ft is ls st σ := by
    unfold wpM; rw [hb]
  exact propext ⟨fun h => e ▸ X_out h, fun h => X_in (e ▸ h)⟩
/-! an outcome is one -/
def Both (Q Q' : PQ) : Prop := ∃ r s, Q r s ∧ Q' r s
theorem swK_both {J J' : Nat → Prop} {B : Prop} (h : ∀ t, J t → J' t → B) {d : Nat} {x : Int} : ∀ (ts : List Nat) (lo : Int), swK J d x lo ts → swK J' d x lo ts → B
  | [], _, a, b => h _ a b
  | t :: ts, lo, a, b => by
    by_cases e : x = lo
    · exact h _ (a.1 e) (b.1 e)
    · exact swK_both h ts (lo + 1) (a.2 e) (b.2 e)
theorem pushK_both {rk : Nat} {r : Option PV} {rest : List PV} {k k' : List PV → Prop} {B : Prop} (h : ∀ s, k s → k' s → B) (a : pushK rk r rest k) (b : pushK rk r rest k') : B := by
  unfold pushK at *
  split at a
  · unfold retV at *; split at a
    · exact h _ a b
    · exact a.elim
  · unfold retI at *; split at a
    · exact h _ a b
    · exact a.elim
  · unfold retL at *; split at a
    · exact h _ a b
    · exact a.elim
  · unfold retR at *; split at a
    · exact h _ a b
    · exact a.elim
  · exact a.elim
theorem wpA_both {J J' : Nat → LSt → List PV → Mem → Prop} {Rt Rt' : PQ} {C C' : Nat → List PV → Mem → PQ → Prop} {K K' : LSt → List PV → Mem → Prop} {B : Prop}
    (hJ : ∀ t ls st σ, J t ls st σ → J' t ls st σ → B) (hR : ∀ r s, Rt r s → Rt' r s → B) (hC : ∀ k as σ Q Q', C k as σ Q → C' k as σ Q' → Both Q Q') (hK : ∀ ls st σ, K ls st σ → K' ls st σ → B)
    (a : Act) (h : wpA J Rt C K a) (h' : wpA J' Rt' C' K' a) : B := by
  rcases a with ⟨ls, st, σ⟩ | ⟨p, ls, st, σ⟩ | ⟨p, t, ls, st, σ⟩ | ⟨t, ls, st, σ⟩ | ⟨x, lo, d, ts, ls, st, σ⟩ | ⟨r, σ⟩ | ⟨p, r, σ⟩ | ⟨p, k, as, rk, rest, ls, σ⟩ | u
  · exact hK _ _ _ h h'
  · exact hK _ _ _ h.2 h'.2
  · by_cases e : p
    · exact hJ _ _ _ _ (h.1 e) (h'.1 e)
    · exact hK _ _ _ (h.2 e) (h'.2 e)
  · exact hJ _ _ _ _ h h'
  · exact swK_both (fun t => hJ t _ _ _) _ _ h h'
  · exact hR _ _ h h'
  · exact hR _ _ h.2 h'.2
  · obtain ⟨r, s, q, q'⟩ := hC _ _ _ _ _ h.2 h'.2
    exact pushK_both (fun st => hK _ _ _) q q'
  · exact h.elim
theorem wpB_both {len : Nat → Nat} {J J' : Nat → LSt → List PV → Mem → Prop} {Rt Rt' : PQ} {C C' : Nat → List PV → Mem → PQ → Prop} {ft : Nat} {B : Prop}
    (hJ : ∀ t ls st σ, J t ls st σ → J' t ls st σ → B) (hR : ∀ r s, Rt r s → Rt' r s → B) (hC : ∀ k as σ Q Q', C k as σ Q → C' k as σ Q' → Both Q Q') :
    ∀ (is : List MI) (ls : LSt) (st : List PV) (σ : Mem), wpB len J Rt C ft is ls st σ → wpB len J' Rt' C' ft is ls st σ → B
  | [], ls, st, σ, h, h' => hJ _ _ _ _ h h'
  | _ :: is, ls, st, σ, h, h' => wpA_both hJ hR hC (fun ls st σ => wpB_both hJ hR hC is ls st σ) _ h h'
theorem X_both {L k pc : Nat} {ls : LSt} {st : List PV} {σ : Mem} {Q Q' : PQ} (h : X L k pc ls st σ Q) (h' : X L k pc ls st σ Q') : Both Q Q' := by
  refine h (fun k pc ls st σ Q => ∀ Q', X L k pc ls st σ Q' → Both Q Q') ⟨fun k pc ls st σ Q Q' hq a Q'' b => ?_, fun k pc ls st σ Q a Q' b => ?_⟩ Q' h'
  · obtain ⟨r, s, q, q'⟩ := a Q'' b
    exact ⟨r, s, hq _ _ q, q'⟩
  · have b := X_out b
    unfold wpM at a b
    split at a
    next ft is e =>
      rw [e] at b
      exact wpB_both (fun t ls st σ x y => x _ y) (fun r s x y => ⟨r, s, x, y⟩) (fun k as σ Q Q' x y => x _ y) is ls st σ a b
    next => exact a.elim
/-- the method k, called with these values, answers r, and the cells are then s' -/
def Ev (L k : Nat) (as : List PV) (σ : Mem) (r : Option PV) (s' : Mem) : Prop := X L k 0 (entL (mML k) as) [] σ (fun r' s => r' = r ∧ s = s')
theorem Xat {L k pc : Nat} {ls : LSt} {st : List PV} {σ s' : Mem} {r : Option PV} (h : X L k pc ls st σ (fun r' s => r' = r ∧ s = s')) (Q : PQ) : X L k pc ls st σ Q = Q r s' := by
  refine propext ⟨fun a => ?_, fun a => X_mono _ _ _ _ _ _ _ (fun r' s e => by rw [e.1, e.2]; exact a) h⟩
  obtain ⟨r', s, q, e1, e2⟩ := X_both a h
  rw [← e1, ← e2]; exact q
