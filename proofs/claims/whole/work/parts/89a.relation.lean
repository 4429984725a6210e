/-! The relation between the class's state and the reference's. -/
def jx (hv : Int32) (nk r ak : Nat) (fr to : Nat → Int32) (wt : Nat → Int64) (ck : Nat) (sm sa so : Nat → Int32) (dw : Nat → Int64) (nu by_ ri : Nat → Int32) (md : Nat) (mi mm ma mv ml : Nat → Int32) (du : Nat → Int64) (od : Nat → Int32) : Prop :=
  (hv = 0 ∧ md = 0) ∨ (¬ hv = 0 ∧ jt nk r ak fr to wt ck sm sa so dw nu by_ ri md mi mm ma mv ml du od)
def jI (sv : Int32) (hv : Int32) (nk : Int32) (rt : Int32) (ak : Int32) (fr : (Nat → Int32)) (to : (Nat → Int32)) (wt : (Nat → Int64)) (op : (Nat → Int32)) (ck : Int32) (sm : (Nat → Int32)) (sa : (Nat → Int32)) (so : (Nat → Int32)) (dw : (Nat → Int64)) (dp : (Nat → Int64)) (by_ : (Nat → Int32)) (nu : (Nat → Int32)) (wk : (Nat → Int32)) (hm : (Nat → Int32)) (hw : (Nat → Int64)) (hp : (Nat → Int64)) (ri : (Nat → Int32)) (mnk : Int32) (mrt : Int32) (mak : Int32) (msv : Int32) (mhv : Int32) (md : Int32) (mth : Int32) (r0 : Int64) (r1 : Int64) (r2 : Int64) (mfr : (Nat → Int32)) (mto : (Nat → Int32)) (mwt : (Nat → Int64)) (mop : (Nat → Int32)) (re : (Nat → Int32)) (mi : (Nat → Int32)) (mm : (Nat → Int32)) (ma : (Nat → Int32)) (me : (Nat → Int32)) (mv : (Nat → Int32)) (ml : (Nat → Int32)) (du : (Nat → Int64)) (dh : (Nat → Int64)) (dl : (Nat → Int64)) (od : (Nat → Int32)) (ou : (Nat → Int64)) : Prop :=
  ∃ xn xr xa xc xd : Nat, (nk = nI xn ∧ rt = nI xr ∧ ak = nI xa ∧ ck = nI xc ∧ md = nI xd) ∧ (mnk = nI xn ∧ mrt = nI xr ∧ mak = nI xa ∧ msv = sv ∧ mhv = hv) ∧ (mfr = fr ∧ mto = to ∧ mwt = wt ∧ mop = op) ∧ jn xn xr xa fr to op ∧ jr xc sa so by_ ri re mi ∧ jx hv xn xr xa fr to wt xc sm sa so dw nu by_ ri xd mi mm ma mv ml du od
section Rel
variable {nk r ak ck md : Nat} {sv hv : Int32} {fr to : Nat → Int32} {wt : Nat → Int64} {op sm sa so : Nat → Int32} {dw dp : Nat → Int64} {by_ nu wk hm : Nat → Int32} {hw hp : Nat → Int64} {ri : Nat → Int32} {mth : Int32} {r0 r1 r2 : Int64} {re mi mm ma me mv ml : Nat → Int32} {du dh dl : Nat → Int64} {od : Nat → Int32} {ou : Nat → Int64} {a1 a2 a3 a4 : Int32}
theorem jI_mk (hn : jn nk r ak fr to op) (hr : jr ck sa so by_ ri re mi) (ht : jx hv nk r ak fr to wt ck sm sa so dw nu by_ ri md mi mm ma mv ml du od) : jI sv hv (nI nk) (nI r) (nI ak) fr to wt op (nI ck) sm sa so dw dp by_ nu wk hm hw hp ri (nI nk) (nI r) (nI ak) sv hv (nI md) mth r0 r1 r2 fr to wt op re mi mm ma me mv ml du dh dl od ou := ⟨nk, r, ak, ck, md, ⟨rfl, rfl, rfl, rfl, rfl⟩, ⟨rfl, rfl, rfl, rfl, rfl⟩, ⟨rfl, rfl, rfl, rfl⟩, hn, hr, ht⟩
end Rel
theorem zq {P : Prop} {a b : Int32} {x y : Int64} (h1 : a = b) (h2 : b = 0 → x = y) (h : P) : (if a = b then (if b = 0 then (if lg_cmp x y = 0 then P else False) else P) else False) := by
  rw [if_pos h1]
  by_cases c : b = 0
  · rw [if_pos c, if_pos (by rw [lg_cmp_eq]; exact h2 c)]; exact h
  · rw [if_neg c]; exact h
theorem zb {P : Prop} {a b v : Int32} {x : Int64} (h1 : a = b) (h2 : b = 0 → x = if v = 0 then 0 else 1) (h : P) : (if a = b then (if b = 0 then (if v = 0 then (if lg_cmp x 0 = 0 then P else False) else (if lg_cmp x 1 = 0 then P else False)) else P) else False) := by
  rw [if_pos h1]
  by_cases c : b = 0
  · rw [if_pos c]
    have h3 := h2 c
    by_cases d : v = 0
    · rw [if_pos d] at h3 ⊢
      rw [if_pos (by rw [lg_cmp_eq]; exact h3)]; exact h
    · rw [if_neg d] at h3 ⊢
      rw [if_pos (by rw [lg_cmp_eq]; exact h3)]; exact h
  · rw [if_neg c]; exact h
theorem ag_nle {x y : Int32} : y ≤ x ↔ ¬ x < y := Int32.not_lt.symm
theorem ag_node {n : Nat} {p : Int32} (hn : n < 2 ^ 31) : (x_X3_checkNode (nI n) p = none ∧ f_X4_noNode (nI n) p = 0 ∧ tq_r n p) ∨ (x_X3_checkNode (nI n) p = some "java/lang/IndexOutOfBoundsException" ∧ f_X4_noNode (nI n) p = 1) := by
  unfold x_X3_checkNode f_X4_noNode f_X1_isNode
  by_cases c : p < 0
  · right; rw [if_pos c, if_pos c, if_pos rfl]; exact ⟨rfl, rfl⟩
  · by_cases d : p < nI n
    · left; rw [if_neg c, if_neg c, if_pos d, if_neg (fun h => (ag_nle.mp h) d), if_neg (by decide)]
      exact ⟨rfl, rfl, tq_r_of c d hn⟩
    · right; rw [if_neg c, if_neg c, if_neg d, if_pos (ag_nle.mpr d), if_pos rfl]; exact ⟨rfl, rfl⟩
theorem ag_arc {n : Nat} {p : Int32} (hn : n < 2 ^ 31) : (x_X3_checkArc (nI n) p = none ∧ f_X4_noArc (nI n) p = 0 ∧ tq_r n p) ∨ (x_X3_checkArc (nI n) p = some "java/lang/IndexOutOfBoundsException" ∧ f_X4_noArc (nI n) p = 1) := by
  unfold x_X3_checkArc f_X4_noArc f_X1_isArc
  by_cases c : p < 0
  · right; rw [if_pos c, if_pos c, if_pos rfl]; exact ⟨rfl, rfl⟩
  · by_cases d : p < nI n
    · left; rw [if_neg c, if_neg c, if_pos d, if_neg (fun h => (ag_nle.mp h) d), if_neg (by decide)]
      exact ⟨rfl, rfl, tq_r_of c d hn⟩
    · right; rw [if_neg c, if_neg c, if_neg d, if_pos (ag_nle.mpr d), if_pos rfl]; exact ⟨rfl, rfl⟩
theorem ag_set {hv : Int32} {c d : Nat} {p : Int32} (hc : c < 2 ^ 31) (hcd : ¬ hv = 0 → c = d) : (x_X3_checkSet hv (nI c) p = none ∧ f_X4_noSet hv (nI d) p = 0 ∧ tq_r c p ∧ ¬ hv = 0) ∨ (x_X3_checkSet hv (nI c) p = some "java/lang/IndexOutOfBoundsException" ∧ f_X4_noSet hv (nI d) p = 1) := by
  unfold x_X3_checkSet f_X4_noSet
  by_cases c0 : hv = 0
  · right; rw [if_pos c0, if_pos c0]; exact ⟨rfl, rfl⟩
  · rw [if_neg c0, if_neg c0, ← hcd c0]
    by_cases c1 : p < 0
    · right; rw [if_pos c1, if_pos c1]; exact ⟨rfl, rfl⟩
    · by_cases c2 : p < nI c
      · left; rw [if_neg c1, if_neg c1, if_pos c2, if_pos c2]
        exact ⟨rfl, rfl, tq_r_of c1 c2 hc, c0⟩
      · right; rw [if_neg c1, if_neg c1, if_neg c2, if_neg c2]; exact ⟨rfl, rfl⟩
theorem ag_weight {p : Int64} : (x_X3_checkWeight p = none ∧ ¬ lg_cmp p 0 < 0 ∧ lg_cmp p (1099511627776) ≤ 0) ∨ (x_X3_checkWeight p = some "java/lang/IllegalArgumentException" ∧ (lg_cmp p 0 < 0 ∨ (¬ lg_cmp p 0 < 0 ∧ ¬ lg_cmp p (1099511627776) ≤ 0))) := by
  unfold x_X3_checkWeight
  by_cases c1 : lg_cmp p 0 < 0
  · right; rw [if_pos c1]; exact ⟨rfl, Or.inl c1⟩
  · rw [if_neg c1]
    by_cases c2 : lg_cmp p (1099511627776) ≤ 0
    · left; rw [if_pos c2]; exact ⟨rfl, c1, c2⟩
    · right; rw [if_neg c2]; exact ⟨rfl, Or.inr ⟨c1, c2⟩⟩
theorem jx_ck {hv : Int32} {nk r ak : Nat} {fr to : Nat → Int32} {wt : Nat → Int64} {ck : Nat} {sm sa so : Nat → Int32} {dw : Nat → Int64} {nu by_ ri : Nat → Int32} {md : Nat} {mi mm ma mv ml : Nat → Int32} {du : Nat → Int64} {od : Nat → Int32} (hck : ck ≤ 45) (ht : jx hv nk r ak fr to wt ck sm sa so dw nu by_ ri md mi mm ma mv ml du od) : (¬ hv = 0 → ck = md ∧ jt nk r ak fr to wt ck sm sa so dw nu by_ ri md mi mm ma mv ml du od) ∧ md ≤ 45 ∧ (∀ j, j < md → tq_r 48 (od j)) ∧ ∀ j, j < md → ¬ mv (tq_x (od j)) < 0 → q_num od (mv (tq_x (od j))) := by
  rcases ht with ⟨h1, h2⟩ | ⟨h1, h2⟩
  · subst h2
    exact ⟨fun h => absurd h1 h, by omega, fun j hj => absurd hj (by omega), fun j hj => absurd hj (by omega)⟩
  · have e := h2.1
    refine ⟨fun _ => ⟨e, h2⟩, by omega, fun j hj => tq_r_mono (h2.2.2.2.2.2.1 j hj) (by omega), fun j hj hm => ?_⟩
    rcases (h2.2.2.2.2.2.2.1 j (by omega)).2.2.2.2 with ⟨-, -, g⟩ | ⟨-, -, n, -, -, g, -⟩
    · rw [g] at hm; exact absurd (by decide) hm
    · exact g
