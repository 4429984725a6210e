section Steps
variable {nk r ak ck md : Nat} {sv hv : Int32} {fr to : Nat → Int32} {wt : Nat → Int64} {op sm sa so : Nat → Int32} {dw dp : Nat → Int64} {by_ nu wk hm : Nat → Int32} {hw hp : Nat → Int64} {ri : Nat → Int32} {mth : Int32} {r0 r1 r2 : Int64} {re mi mm ma me mv ml : Nat → Int32} {du dh dl : Nat → Int64} {od : Nat → Int32} {ou : Nat → Int64} {a1 a2 a3 a4 : Int32}
set_option maxRecDepth 100000 in
theorem jk_0 (hn : jn nk r ak fr to op) (hr : jr ck sa so by_ ri re mi) (ht : jx hv nk r ak fr to wt ck sm sa so dw nu by_ ri md mi mm ma mv ml du od) : q_0 sv hv nk (nI r) ak fr to wt op ck sm sa so dw dp by_ nu wk hm hw hp ri nk (nI r) ak sv hv md mth r0 r1 r2 fr to wt op re mi mm ma me mv ml du dh dl od ou a1 a2 a3 a4 ∧ z_0 jI sv hv nk (nI r) ak fr to wt op ck sm sa so dw dp by_ nu wk hm hw hp ri nk (nI r) ak sv hv md mth r0 r1 r2 fr to wt op re mi mm ma me mv ml du dh dl od ou a1 a2 a3 a4 := by
  refine ⟨trivial, ?_⟩
  unfold z_0 f_X4_thrown
  rcases ag_nodes (n1 := nI nk) (rt := nI r) (ac := nI ak) (sv := sv) (hv := hv) (d := nI md) (a1 := a1) (a2 := a2) with ⟨e1, e2⟩ | ⟨n, q, g1, g2, g3, g4, e1, e2⟩
  · rw [e1, e2]
    dsimp only
    rw [if_pos rfl]
    exact jI_mk hn hr ht
  · rw [e1, e2]
    dsimp only
    rw [if_pos rfl, g1, g2]
    exact jI_mk (ak := 0) (md := 0) ⟨g3, g4, by omega, hn.2.2.2.1, hn.2.2.2.2.1, fun j hj => absurd hj (by omega), fun j hj => absurd hj (by omega), hn.2.2.2.2.2.2.2⟩ hr (Or.inl ⟨rfl, rfl⟩)
set_option maxRecDepth 100000 in
theorem jk_1 (hn : jn nk r ak fr to op) (hr : jr ck sa so by_ ri re mi) (ht : jx hv nk r ak fr to wt ck sm sa so dw nu by_ ri md mi mm ma mv ml du od) : q_1 sv hv nk (nI r) ak fr to wt op ck sm sa so dw dp by_ nu wk hm hw hp ri nk (nI r) ak sv hv md mth r0 r1 r2 fr to wt op re mi mm ma me mv ml du dh dl od ou a1 a2 a3 a4 ∧ z_1 jI sv hv nk (nI r) ak fr to wt op ck sm sa so dw dp by_ nu wk hm hw hp ri nk (nI r) ak sv hv md mth r0 r1 r2 fr to wt op re mi mm ma me mv ml du dh dl od ou a1 a2 a3 a4 := by
  refine ⟨⟨hn.2.2.1, hn.2.2.1, trivial⟩, ?_⟩
  unfold z_1 f_X4_thrown
  generalize ((((a3 : Int32).toInt64 : Int64) <<< ((32 : Int32).toInt64 &&& 63)) ||| (((a4 : Int32).toInt64) &&& (4294967295))) = w
  rcases ag_add (nk := nk) (ak := ak) (sv := sv) (hv := hv) (d := nI md) (a1 := a1) (a2 := a2) (w := w) (fr := fr) (to := to) (wt := wt) (op := op) (ou := ou) hn.1 hn.2.2.1 with ⟨t, t0, e1, e2⟩ | ⟨e1, e2⟩ | ⟨g1, g2, g3, e1, e2⟩
  · rw [e1, e2]
    dsimp only
    rw [if_pos rfl, if_neg t0]
    exact jI_mk hn hr ht
  · rw [e1, e2]
    dsimp only
    rw [if_pos rfl, if_pos rfl, if_pos (by rw [lg_cmp_eq]; exact updL_eq)]
    exact jI_mk hn hr ht
  · rw [e1, e2]
    dsimp only
    rw [if_pos rfl, if_pos rfl, if_pos (by rw [lg_cmp_eq]; exact updL_eq)]
    obtain ⟨n1, n2, n3, n4, n5, n6, n7, n8⟩ := hn
    refine jI_mk (ak := ak + 1) (md := 0) ⟨n1, n2, by omega, fun j hj => ?_, fun j hj => ?_, fun j hj => ?_, fun j hj => ?_, fun j hj => ?_⟩ hr (Or.inl ⟨rfl, rfl⟩)
    · by_cases c : j = ak
      · subst c; rw [upd_eq]; exact tq_r_mono g2 n1
      · rw [upd_ne c]; exact n4 j hj
    · by_cases c : j = ak
      · subst c; rw [upd_eq]; exact tq_r_mono g3 n1
      · rw [upd_ne c]; exact n5 j hj
    · by_cases c : j = ak
      · subst c; rw [upd_eq]; exact g2.2
      · rw [upd_ne c]; exact n6 j (by omega)
    · by_cases c : j = ak
      · subst c; rw [upd_eq]; exact g3.2
      · rw [upd_ne c]; exact n7 j (by omega)
    · by_cases c : j = ak
      · subst c; rw [upd_eq]; exact Or.inr rfl
      · rw [upd_ne c]; exact n8 j hj
set_option maxRecDepth 100000 in
theorem jk_2 (hn : jn nk r ak fr to op) (hr : jr ck sa so by_ ri re mi) (ht : jx hv nk r ak fr to wt ck sm sa so dw nu by_ ri md mi mm ma mv ml du od) : q_2 sv hv nk (nI r) ak fr to wt op ck sm sa so dw dp by_ nu wk hm hw hp ri nk (nI r) ak sv hv md mth r0 r1 r2 fr to wt op re mi mm ma me mv ml du dh dl od ou a1 a2 a3 a4 ∧ z_2 jI sv hv nk (nI r) ak fr to wt op ck sm sa so dw dp by_ nu wk hm hw hp ri nk (nI r) ak sv hv md mth r0 r1 r2 fr to wt op re mi mm ma me mv ml du dh dl od ou a1 a2 a3 a4 := by
  refine ⟨⟨hn.2.2.1, hn.2.2.1, trivial⟩, ?_⟩
  unfold z_2 f_X4_thrown
  generalize ((((a2 : Int32).toInt64 : Int64) <<< ((32 : Int32).toInt64 &&& 63)) ||| (((a3 : Int32).toInt64) &&& (4294967295))) = w
  rcases ag_weigh (ak := ak) (sv := sv) (hv := hv) (d := nI md) (a1 := a1) (w := w) (wt := wt) (ou := ou) hn.2.2.1 with ⟨t, t0, e1, e2⟩ | ⟨e1, e2⟩
  · rw [e1, e2]
    dsimp only
    rw [if_pos rfl, if_neg t0]
    exact jI_mk hn hr ht
  · rw [e1, e2]
    dsimp only
    rw [if_pos rfl, if_pos rfl, if_pos (by rw [lg_cmp_eq]; exact updL_eq)]
    exact jI_mk (md := 0) hn hr (Or.inl ⟨rfl, rfl⟩)
set_option maxRecDepth 100000 in
theorem jk_3 (hn : jn nk r ak fr to op) (hr : jr ck sa so by_ ri re mi) (ht : jx hv nk r ak fr to wt ck sm sa so dw nu by_ ri md mi mm ma mv ml du od) : q_3 sv hv nk (nI r) ak fr to wt op ck sm sa so dw dp by_ nu wk hm hw hp ri nk (nI r) ak sv hv md mth r0 r1 r2 fr to wt op re mi mm ma me mv ml du dh dl od ou a1 a2 a3 a4 ∧ z_3 jI sv hv nk (nI r) ak fr to wt op ck sm sa so dw dp by_ nu wk hm hw hp ri nk (nI r) ak sv hv md mth r0 r1 r2 fr to wt op re mi mm ma me mv ml du dh dl od ou a1 a2 a3 a4 := by
  refine ⟨⟨hn.2.2.1, hn.2.2.2.2.2.2.2, Or.inl rfl, hn.2.2.1, hn.2.2.2.2.2.2.2, Or.inr rfl, trivial⟩, ?_⟩
  have hop : ∀ x : Int32, x = 0 ∨ x = 1 → jn nk r ak fr to (upd op (tq_x a1) x) := fun x hx => by
    obtain ⟨n1, n2, n3, n4, n5, n6, n7, n8⟩ := hn
    refine ⟨n1, n2, n3, n4, n5, n6, n7, fun j hj => ?_⟩
    by_cases c : j = tq_x a1
    · rw [c, upd_eq]; exact hx
    · rw [upd_ne c]; exact n8 j hj
  unfold z_3 f_X4_thrown
  by_cases c : a2 = 0
  · rw [if_pos c, if_pos c]
    rcases ag_open (ak := ak) (sv := sv) (hv := hv) (d := nI md) (a1 := a1) (p1 := 0) (op := op) (ou := ou) hn.2.2.1 with ⟨e1, e2⟩ | ⟨e1, e2⟩
    · rw [e1, e2]
      dsimp only
      exact zb rfl (fun h => absurd h (by decide)) (jI_mk hn hr ht)
    · rw [e1, e2]
      dsimp only
      exact zb rfl (fun _ => updL_eq) (jI_mk (md := 0) (hop 0 (Or.inl rfl)) hr (Or.inl ⟨rfl, rfl⟩))
  · rw [if_neg c, if_neg c]
    rcases ag_open (ak := ak) (sv := sv) (hv := hv) (d := nI md) (a1 := a1) (p1 := 1) (op := op) (ou := ou) hn.2.2.1 with ⟨e1, e2⟩ | ⟨e1, e2⟩
    · rw [e1, e2]
      dsimp only
      exact zb rfl (fun h => absurd h (by decide)) (jI_mk hn hr ht)
    · rw [e1, e2]
      dsimp only
      exact zb rfl (fun _ => updL_eq) (jI_mk (md := 0) (hop 1 (Or.inr rfl)) hr (Or.inl ⟨rfl, rfl⟩))
end Steps
