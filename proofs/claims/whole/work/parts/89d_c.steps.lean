section Steps
variable {nk r ak ck md : Nat} {sv hv : Int32} {fr to : Nat → Int32} {wt : Nat → Int64} {op sm sa so : Nat → Int32} {dw dp : Nat → Int64} {by_ nu wk hm : Nat → Int32} {hw hp : Nat → Int64} {ri : Nat → Int32} {mth : Int32} {r0 r1 r2 : Int64} {re mi mm ma me mv ml : Nat → Int32} {du dh dl : Nat → Int64} {od : Nat → Int32} {ou : Nat → Int64} {a1 a2 a3 a4 : Int32}
set_option maxRecDepth 100000 in
theorem jk_4 (hn : jn nk r ak fr to op) (hr : jr ck sa so by_ ri re mi) (ht : jx hv nk r ak fr to wt ck sm sa so dw nu by_ ri md mi mm ma mv ml du od) : q_4 sv hv nk (nI r) ak fr to wt op ck sm sa so dw dp by_ nu wk hm hw hp ri nk (nI r) ak sv hv md mth r0 r1 r2 fr to wt op re mi mm ma me mv ml du dh dl od ou a1 a2 a3 a4 ∧ z_4 jI sv hv nk (nI r) ak fr to wt op ck sm sa so dw dp by_ nu wk hm hw hp ri nk (nI r) ak sv hv md mth r0 r1 r2 fr to wt op re mi mm ma me mv ml du dh dl od ou a1 a2 a3 a4 := by
  obtain ⟨s1, s2, s3⟩ := jv_solve (wt := wt) (sm := sm) (dw := dw) (dp := dp) (wk := wk) (hm := hm) (hw := hw) (hp := hp) (nu := nu) (mm := mm) (ma := ma) (me := me) (mv := mv) (ml := ml) (du := du) (dh := dh) (dl := dl) (od := od) (r0 := r0) (r1 := r1) (r2 := r2) hn hr
  refine ⟨⟨hn.1, hn.2.2.1, hn.2.2.2.1, hn.2.2.2.2.1, hr.2.1, hn.1, hn.2.2.1, hn.2.2.2.1, hn.2.2.2.2.1, s1, s2, trivial⟩, ?_⟩
  unfold z_4
  rcases s3 with ⟨m, re', e1, e2, h1⟩ | ⟨ck', sm', sa', so', dw', dp', wk', hm', hw', hp', nu', by', rj', zd, re', yi, zm, za, ye, zv, zl, zu, zh, zw, od', q0, q1, q2, e1, e2, h1, h2⟩
  · rw [e1, e2]
    dsimp only
    rw [if_pos rfl]
    exact jI_mk (md := 0) hn h1 (Or.inl ⟨rfl, rfl⟩)
  · rw [e1, e2]
    dsimp only
    rw [if_pos rfl]
    exact jI_mk hn h1 (Or.inr ⟨by decide, h2⟩)
end Steps
