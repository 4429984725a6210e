/-! What the throwing methods stand on: the strings of the class, the two static fields of Throwable. -/
def tq_txt : List (Nat × String) := [(43, "the nodes are not 1 .. 24"), (48, "the root is none of the nodes"), (67, "an arc goes to another node"), (145, "nothing such is told of a set"), (153, "there is no tree, or it was not solved"), (163, "nothing such is told"), (175, "nothing such is told of an arc"), (186, "there is no such node"), (191, "there is no such arc"), (193, "there is no such set"), (197, "the weight is not 0 .. 2^40")]
def tq_exc : List String := ["java/lang/IndexOutOfBoundsException", "java/lang/IllegalArgumentException", "java/lang/IllegalStateException"]
def tq_sup : List String := ["java/lang/RuntimeException", "java/lang/Exception", "java/lang/Throwable"]
def tq_T (U : State) : Prop := (∀ q ∈ tq_txt, ∃ sa : Nat, vk_R RX3 q.1 q.2 sa U) ∧ (∀ E ∈ tq_exc, va_Nw (.castable E E) U) ∧ ∀ E ∈ tq_sup, va_Nw (.declares (Bundle.initS E)) U
theorem tq_T.same {u U : State} (h : u.vm = U.vm) (q : tq_T u) : tq_T U := ⟨fun x hx => by
  obtain ⟨sa, h1⟩ := q.1 x hx
  exact ⟨sa, vk_R.same h.symm h1⟩, fun E hE => va_Nw.same rfl h (q.2.1 E hE), fun E hE => va_Nw.same rfl h (q.2.2 E hE)⟩
theorem tq_T.warm {s U : State} (q : tq_T s) (h : s.WarmedH U.vm) : tq_T U := ⟨fun x hx => by
  obtain ⟨sa, h1⟩ := q.1 x hx
  exact ⟨sa, vk_R.warm h h1⟩, fun E hE => va_Nw.warmC h (q.2.1 E hE), fun E hE => va_Nw.warmD h (q.2.2 E hE)⟩
def tq_Z (A : Nat → Prop) (U : State) (H : Heap) : Prop := vx_Zq Bundle.tN "UNASSIGNED_STACK" Bundle.steD A U H ∧ vx_Zq Bundle.tN "SUPPRESSED_SENTINEL" Bundle.listD A U H
theorem tq_Z.moved {A : Nat → Prop} {u U : State} {H : Heap} (hvm : u.vm.Alike U.vm) (h : tq_Z A u H) : tq_Z A U H := ⟨vx_Zq.moved hvm h.1, vx_Zq.moved hvm h.2⟩
theorem tq_Z.kept {A : Nat → Prop} {U : State} {H H1 : Heap} (h : tq_Z A U H) (hq : ∀ a : Nat, a < H.size → ¬ A a → H1[a]? = H[a]?) : tq_Z A U H1 := ⟨vx_Zq.kept h.1 hq, vx_Zq.kept h.2 hq⟩
theorem tq_Z.narrow {A B : Nat → Prop} {U : State} {H : Heap} (h : tq_Z A U H) (hAB : ∀ q, B q → A q) : tq_Z B U H := ⟨vx_Zq.narrow h.1 hAB, vx_Zq.narrow h.2 hAB⟩
/-- for a call: at the caller's heap, over the callee's cells -/
theorem tq_Z.call {A B : Nat → Prop} {s U : State} {H : Heap} {locs : List Loc} (h : tq_Z A s s.heap) (hS : va_S A s.heap H locs) (hvm : s.vm.Alike U.vm) (hAB : ∀ q, B q → A q) (hU : U.heap = H) : tq_Z B U U.heap := by
  rw [hU]
  exact ((h.kept hS.2.1).moved hvm).narrow hAB
def tq_names : List String := ["java/lang/RuntimeException", "java/lang/Exception"]
