/-! Loops whose state at the head is a trajectory, places given by an int, counting down. -/
def tq_br {S : Type} (f : Nat → S → Bool × S) (s0 : S) : Nat → Bool × S
  | 0 => (false, s0)
  | k + 1 => if (tq_br f s0 k).1 = true then tq_br f s0 k else f k (tq_br f s0 k).2
theorem tq_br_go {S : Type} {f : Nat → S → Bool × S} {s0 x : S} {k : Nat} (h : tq_br f s0 k = (false, x)) : tq_br f s0 (k + 1) = f k x := by
  show (if (tq_br f s0 k).1 = true then tq_br f s0 k else f k (tq_br f s0 k).2) = f k x
  rw [h]; rfl
theorem tq_it_go {S : Type} {f : Nat → S → S} {s0 x : S} {k : Nat} (h : tq_it f s0 k = x) : tq_it f s0 (k + 1) = f k x := by
  rw [tq_it_succ, h]
theorem tq_br_end {S : Type} {f : Nat → S → Bool × S} {s0 y : S} {i : Nat} (h : tq_br f s0 i = (true, y)) : ∀ n, tq_br f s0 (i + n) = (true, y) := by
  intro n
  induction n with
  | zero => exact h
  | succ n ih =>
    show (if (tq_br f s0 (i + n)).1 = true then tq_br f s0 (i + n) else f (i + n) (tq_br f s0 (i + n)).2) = (true, y)
    rw [ih]; rfl
theorem tq_br_stop {S : Type} {f : Nat → S → Bool × S} {s0 x y : S} {i N : Nat} (hx : tq_br f s0 i = (false, x)) (h : f i x = (true, y)) (hi : i < N) : tq_br f s0 N = (true, y) := by
  have e1 := tq_br_end ((tq_br_go hx).trans h) (N - (i + 1))
  rw [show i + 1 + (N - (i + 1)) = N by omega] at e1
  exact e1
theorem tq_br_stop2 {S : Type} {f : Nat → S → Bool × S} {s0 x : S} {i N : Nat} (hx : tq_br f s0 i = (false, x)) (h : f i x = (true, x)) (hi : i ≤ N) : (tq_br f s0 N).2 = x := by
  rcases Nat.lt_or_ge i N with q | q
  · rw [tq_br_stop hx h q]
  · obtain rfl : i = N := Nat.le_antisymm hi q
    rw [hx]
theorem tq_br_lt {S : Type} {f : Nat → S → Bool × S} {s0 x : S} {i N : Nat} (hx : tq_br f s0 i = (false, x)) (hi : i ≤ N) (hs : (tq_br f s0 N).1 = true) : i < N := by
  rcases Nat.lt_or_ge i N with q | q
  · exact q
  · obtain rfl : i = N := Nat.le_antisymm hi q
    rw [hx] at hs; exact absurd hs Bool.false_ne_true
section TqLoop
variable {p : Program} {l : Launch} {e : Env} {R : Room} {s : State} {m : MethodId} {args : Array Value} {below : List Frame} {meth : Method} {c : Code} {cells slots : Nat} {Q : State → Prop}
variable {D : va_G} {cl : List vw_C}
/-- a loop: T says which states its head may have in round i -/
theorem tq_loop {A : Nat → Prop} {H0 : Heap} {nL pc : Nat} (N : Nat) {S : Type} (T : Nat → S → Prop) (ws : S → va_W) (lv : Nat → S → List (Nat × Value))
    (step : ∀ i x, i ≤ N → T i x → (∀ y, i < N → T (i + 1) y → ∀ (H : Heap) (locs : List Loc) (ls : Array Slot), va_P D cl (ws y) H → va_D A (ws y) → va_S A H0 H locs → lv_has ls nL (lv (i + 1) y) → W p l e R s m args below meth c H locs cells slots Q (F0 m pc ls [])) →
      ∀ (H : Heap) (locs : List Loc) (ls : Array Slot), va_P D cl (ws x) H → va_D A (ws x) → va_S A H0 H locs → lv_has ls nL (lv i x) → W p l e R s m args below meth c H locs cells slots Q (F0 m pc ls [])) :
    ∀ i x, i ≤ N → T i x → ∀ (H : Heap) (locs : List Loc) (ls : Array Slot), va_P D cl (ws x) H → va_D A (ws x) → va_S A H0 H locs → lv_has ls nL (lv i x) → W p l e R s m args below meth c H locs cells slots Q (F0 m pc ls []) := by
  have key : ∀ n i x, i + n = N → T i x → ∀ (H : Heap) (locs : List Loc) (ls : Array Slot), va_P D cl (ws x) H → va_D A (ws x) → va_S A H0 H locs → lv_has ls nL (lv i x) → W p l e R s m args below meth c H locs cells slots Q (F0 m pc ls []) := by
    intro n
    induction n with
    | zero => intro i x hi hx; exact step i x (by omega) hx (fun y h => absurd h (by omega))
    | succ n ih => intro i x hi hx; exact step i x (by omega) hx (fun y _ hy => ih (i + 1) y (by omega) hy)
  intro i x hi hx
  exact key (N - i) i x (by omega) hx
end TqLoop
/-- the place that an int names -/
def tq_x (x : Int32) : Nat := x.toNatClampNeg
def tq_r (n : Nat) (x : Int32) : Prop := x = nI (tq_x x) ∧ tq_x x < n
theorem tq_x_nI {k : Nat} (h : k < 2 ^ 31) : tq_x (nI k) = k := nI_clamp h
theorem tq_r_nI {k n : Nat} (h : k < n) (hn : n ≤ 2 ^ 31) : tq_r n (nI k) := by
  have e1 := tq_x_nI (k := k) (by omega)
  exact ⟨by rw [e1], by rw [e1]; exact h⟩
theorem tq_r_iff {n : Nat} {x : Int32} (hn : n ≤ 2 ^ 31) : tq_r n x ↔ ∃ k, k < n ∧ x = nI k :=
  ⟨fun h => ⟨tq_x x, h.2, h.1⟩, fun ⟨k, hk, e1⟩ => e1 ▸ tq_r_nI hk hn⟩
theorem tq_r_mono {a b : Nat} {x : Int32} (h : tq_r a x) (hab : a ≤ b) : tq_r b x := ⟨h.1, Nat.lt_of_lt_of_le h.2 hab⟩
theorem tq_r_of {n : Nat} {x : Int32} (h0 : ¬ x < 0) (h1 : x < nI n) (hn : n < 2 ^ 31) : tq_r n x := by
  obtain ⟨j, hj, rfl⟩ := nI_of h0
  exact tq_r_nI ((nI_ltI hj hn).mp h1) (by omega)
theorem tq_r_0 {n : Nat} (h : 0 < n) (hn : n ≤ 2 ^ 31) : tq_r n 0 := tq_r_nI (k := 0) h hn
theorem tq_r_ne {n : Nat} {x : Int32} (h : tq_r n x) (hn : n ≤ 2 ^ 31) : ¬ x = -1 := by
  intro q
  have h1 := nI_pos (n := tq_x x) (by have := h.2; omega)
  rw [← h.1, q] at h1
  exact h1 (by decide)
/-- a counter that goes down from k - 1: in round i it stands at k - i - 1 -/
theorem tq_dn_lt {k i : Nat} (h : ¬ nI (k - i) - 1 < 0) (hi : i ≤ k) : i < k := by
  rcases Nat.lt_or_ge i k with q | q
  · exact q
  · refine absurd ?_ h
    rw [show k - i = 0 by omega]; decide
theorem tq_dn_ix {k i : Nat} (h : i < k) : nI (k - i) - 1 = nI (k - i - 1) := by
  obtain ⟨j, hj⟩ : ∃ j, k - i = j + 1 := ⟨k - i - 1, by omega⟩
  rw [hj, nI_pred]; rfl
theorem tq_dn_eq {k i : Nat} (h : nI (k - i) - 1 < 0) (hi : i ≤ k) (hk : k < 2 ^ 31) : i = k := by
  rcases Nat.lt_or_ge i k with q | q
  · rw [tq_dn_ix q] at h; exact absurd h (nI_pos (by omega))
  · omega
theorem tq_dn_step {k i : Nat} (h : i < k) : nI (k - i) - 1 + (-1) = nI (k - (i + 1)) - 1 := by
  rw [tq_dn_ix h, show k - (i + 1) = k - i - 1 by omega, Int32.sub_eq_add_neg]
theorem tq_n1 (k : Nat) : nI k + 1 = nI (k + 1) := nI_1 k
/-- what holds all along a trajectory -/
theorem tq_it_inv {S : Type} {f : Nat → S → S} {s0 : S} {N : Nat} (I : Nat → S → Prop) (h0 : I 0 s0) (h1 : ∀ i x, i < N → I i x → I (i + 1) (f i x)) : ∀ i, i ≤ N → I i (tq_it f s0 i) := by
  intro i
  induction i with
  | zero => intro _; exact h0
  | succ n ih => intro hn; exact h1 n _ (by omega) (ih (by omega))
theorem tq_br_inv {S : Type} {f : Nat → S → Bool × S} {s0 : S} {N : Nat} (I : S → Prop) (h0 : I s0) (h1 : ∀ i x, i < N → I x → I (f i x).2) : ∀ i, i ≤ N → I (tq_br f s0 i).2 := by
  intro i
  induction i with
  | zero => intro _; exact h0
  | succ n ih =>
    intro hn
    show I (if (tq_br f s0 n).1 = true then tq_br f s0 n else f n (tq_br f s0 n).2).2
    split
    · exact ih (by omega)
    · exact h1 n _ (by omega) (ih (by omega))
theorem tq_posn {k : Nat} (h : ¬ nI k ≤ 0) : 0 < k := by
  rcases Nat.eq_zero_or_pos k with q | q
  · subst q; exact absurd (by decide) h
  · exact q
theorem tq_pred {k : Nat} (h : 0 < k) : nI k - 1 = nI (k - 1) := by
  obtain ⟨j, rfl⟩ : ∃ j, k = j + 1 := ⟨k - 1, by omega⟩
  rw [nI_pred]; rfl
theorem tq_decr {k : Nat} (h : 0 < k) : nI k + (-1) = nI (k - 1) := by
  rw [← tq_pred h, Int32.sub_eq_add_neg]
theorem tq_dn_step2 {k i : Nat} (h : i < k) : nI (k - i - 1) + (-1) = nI (k - (i + 1)) - 1 := by
  rw [← tq_dn_ix h]; exact tq_dn_step h
section TqSwitch
variable {p : Program} {l : Launch} {e : Env} {R : Room} {s : State} {m : MethodId} {args : Array Value} {below : List Frame} {meth : Method} {c : Code} {H : Heap} {locs : List Loc} {cells slots : Nat} {Q : State → Prop}
variable {cc : ByteArray} {pc : Nat} {ls : Array Slot} {rest : List Value}
theorem tq_tswIn (hexec : p.tables.exec = Jvm.exec) (hb : c.code = cc) {x : Int32} {df lo hi : Int} {offs : Array Int} {len : Nat} {off : Int} {tgt : Nat} (hdg : decode cc pc = .ok (.tableswitch df lo hi offs, len)) (hin : ¬ (x.toInt < lo ∨ x.toInt > hi)) (hoffs : offs[(x.toInt - lo).toNat]? = some off) (ht : (pc : Int) + off = (tgt : Int))
    (k : W p l e R s m args below meth c H locs cells slots Q (F0 m tgt ls rest)) : W p l e R s m args below meth c H locs cells slots Q (F0 m pc ls (.int x :: rest)) := by
  intro T hT X
  obtain ⟨t, a, b⟩ := k T hT X
  refine ⟨t, ?_, b⟩
  jvm_step X.here [X.here.top, hexec, hb, hdg, tableswitch.wp_sem, hin, hoffs, ht]
  exact a
theorem tq_tswOut (hexec : p.tables.exec = Jvm.exec) (hb : c.code = cc) {x : Int32} {df lo hi : Int} {offs : Array Int} {len : Nat} {tgt : Nat} (hdg : decode cc pc = .ok (.tableswitch df lo hi offs, len)) (hout : x.toInt < lo ∨ x.toInt > hi) (ht : (pc : Int) + df = (tgt : Int))
    (k : W p l e R s m args below meth c H locs cells slots Q (F0 m tgt ls rest)) : W p l e R s m args below meth c H locs cells slots Q (F0 m pc ls (.int x :: rest)) := by
  intro T hT X
  obtain ⟨t, a, b⟩ := k T hT X
  refine ⟨t, ?_, b⟩
  jvm_step X.here [X.here.top, hexec, hb, hdg, tableswitch.wp_sem, hout, ht]
  exact a
end TqSwitch
