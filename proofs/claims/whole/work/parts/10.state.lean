/-! The beginning of a walk, loops with a counter, and small facts on counters. -/
section TqWalk
variable {p : Program} {l : Launch} {e : Env} {R : Room} {s : State} {m : MethodId} {args : Array Value} {below : List Frame} {meth : Method} {c : Code} {cells slots : Nat} {Q : State → Prop}
variable {D : va_G} {cl : List vw_C}
theorem tq_begin {ws : va_W} {A : Nat → Prop} {g : JFrame} (hP : va_P D cl ws s.heap) (k : ∀ (H : Heap) (locs : List Loc), va_P D cl ws H → va_S A s.heap H locs → W p l e R s m args below meth c H locs cells slots Q g) : W p l e R s m args below meth c s.heap [] cells slots Q g := k s.heap [] hP va_S.rf
/-- a loop with a counter: the cells and the locals at its head are functions of the counter -/
theorem tq_for {A : Nat → Prop} {H0 : Heap} {nL pc : Nat} (N : Nat) (ws : Nat → va_W) (lv : Nat → List (Nat × Value))
    (step : ∀ i, i ≤ N → (i < N → ∀ (H : Heap) (locs : List Loc) (ls : Array Slot), va_P D cl (ws (i + 1)) H → va_D A (ws (i + 1)) → va_S A H0 H locs → lv_has ls nL (lv (i + 1)) → W p l e R s m args below meth c H locs cells slots Q (F0 m pc ls [])) →
      ∀ (H : Heap) (locs : List Loc) (ls : Array Slot), va_P D cl (ws i) H → va_D A (ws i) → va_S A H0 H locs → lv_has ls nL (lv i) → W p l e R s m args below meth c H locs cells slots Q (F0 m pc ls [])) :
    ∀ i, i ≤ N → ∀ (H : Heap) (locs : List Loc) (ls : Array Slot), va_P D cl (ws i) H → va_D A (ws i) → va_S A H0 H locs → lv_has ls nL (lv i) → W p l e R s m args below meth c H locs cells slots Q (F0 m pc ls []) := by
  have key : ∀ n i, i + n = N → ∀ (H : Heap) (locs : List Loc) (ls : Array Slot), va_P D cl (ws i) H → va_D A (ws i) → va_S A H0 H locs → lv_has ls nL (lv i) → W p l e R s m args below meth c H locs cells slots Q (F0 m pc ls []) := by
    intro n
    induction n with
    | zero => intro i hi; exact step i (by omega) (fun h => absurd h (by omega))
    | succ n ih => intro i hi; exact step i (by omega) (fun _ => ih (i + 1) (by omega))
  intro i hi
  exact key (N - i) i (by omega)
end TqWalk
/-- what n rounds of f make of s0, the counter from 0 on -/
def tq_it {S : Type} (f : Nat → S → S) (s0 : S) : Nat → S
  | 0 => s0
  | k + 1 => f k (tq_it f s0 k)
theorem tq_it_succ {S : Type} (f : Nat → S → S) (s0 : S) (k : Nat) : tq_it f s0 (k + 1) = f k (tq_it f s0 k) := rfl
theorem tq_lt {i N : Nat} (h : ¬ nI N ≤ nI i) (hN : N < 2 ^ 31) (hi : i < 2 ^ 31) : i < N := by
  rcases Nat.lt_or_ge i N with q | q
  · exact q
  · exact absurd (nI_le q hi) h
theorem tq_ge {i N : Nat} (h : nI N ≤ nI i) (hN : N < 2 ^ 31) (hi : i < 2 ^ 31) : N ≤ i := (nI_leI hN hi).mp h
theorem tq_zn (x : Int32) (h : x = 0 ∨ x = 1) : narrow .boolean (.int x) = .int x := by rcases h with rfl | rfl <;> rfl
theorem tq_zf (x : Int32) (h : x = 0 ∨ x = 1) : fits .boolean (.int x) = true := by rcases h with rfl | rfl <;> rfl
theorem tq_it_fix {S : Type} {f : Nat → S → S} {s0 x : S} {i N : Nat} (hx : x = tq_it f s0 i) (hi : i ≤ N) (h : ∀ j, f j x = x) : tq_it f s0 N = x := by
  induction N with
  | zero => obtain rfl : i = 0 := by omega
            exact hx.symm
  | succ n ih =>
    rcases Nat.lt_or_ge n i with q | q
    · obtain rfl : i = n + 1 := by omega
      exact hx.symm
    · rw [tq_it_succ, ih q, h]
/-- the links between nest mates that the words leave to premises -/
def tq_E (U : State) : Prop := va_Nw (.methodLinkNest RX1 36 yX3_holds "TreeOfArcs") U ∧ va_Nw (.methodLinkNest RX0 118 yX3_holds "TreeOfArcs") U
theorem tq_E.same {u U : State} (h : u.vm = U.vm) (q : tq_E u) : tq_E U := ⟨va_Nw.same rfl h q.1, va_Nw.same rfl h q.2⟩
theorem tq_E.warm {s U : State} (q : tq_E s) (h : s.WarmedH U.vm) : tq_E U := ⟨va_Nw.warmM h q.1, va_Nw.warmM h q.2⟩
