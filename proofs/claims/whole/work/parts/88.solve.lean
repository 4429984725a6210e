/-! slack, and solve as a whole. -/
theorem k_slack {fr to mm : Nat → Int32} {du : Nat → Int64} {p0 : Int32} {x : Int64} : ∀ n, t_X4_slack_47 fr to mm du p0 x n = x - fs 0 (fun s => decide (¬ f_X1_enters fr to (tq_x p0) (mm s) = 0)) du n := by
  intro n
  induction n with
  | zero => exact (Int64.sub_zero x).symm
  | succ n ih =>
    have e1 : t_X4_slack_47 fr to mm du p0 x (n + 1) = b_X4_slack_47 fr to mm du p0 n (t_X4_slack_47 fr to mm du p0 x n) := rfl
    rw [e1, ih]
    unfold b_X4_slack_47
    show _ = x - (if decide (¬ f_X1_enters fr to (tq_x p0) (mm n) = 0) = true then fs 0 (fun s => decide (¬ f_X1_enters fr to (tq_x p0) (mm s) = 0)) du n + du n else fs 0 (fun s => decide (¬ f_X1_enters fr to (tq_x p0) (mm s) = 0)) du n)
    have h1 : f_X4_has mm n (to (tq_x p0)) = f_X3_holds (mm n) (to (tq_x p0)) := rfl
    have h2 : f_X4_has mm n (fr (tq_x p0)) = f_X3_holds (mm n) (fr (tq_x p0)) := rfl
    rw [h1, h2]
    generalize fs 0 (fun s => decide (¬ f_X1_enters fr to (tq_x p0) (mm s) = 0)) du n = S
    by_cases c1 : f_X3_holds (mm n) (to (tq_x p0)) = 0
    · have e2 : f_X1_enters fr to (tq_x p0) (mm n) = 0 := by unfold f_X1_enters; rw [if_pos c1]
      rw [if_pos c1, if_neg (fun h => (of_decide_eq_true h) e2), Int64.sub_zero]
    · by_cases c2 : f_X3_holds (mm n) (fr (tq_x p0)) = 0
      · have e2 : f_X1_enters fr to (tq_x p0) (mm n) = 1 := by unfold f_X1_enters; rw [if_neg c1, if_pos c2]
        rw [if_neg c1, if_pos c2, if_pos (decide_eq_true (by rw [e2]; decide)), fi_ss]
      · have e2 : f_X1_enters fr to (tq_x p0) (mm n) = 0 := by unfold f_X1_enters; rw [if_neg c1, if_neg c2]
        rw [if_neg c1, if_neg c2, if_neg (fun h => (of_decide_eq_true h) e2), Int64.sub_zero]
theorem cr_slack {N : Nat → Prop} {ak ck md : Nat} {fr to : Nat → Int32} {wt : Nat → Int64} {op sm sa so : Nat → Int32} {dw dp : Nat → Int64} {hm : Nat → Int32} {hw hp : Nat → Int64} {mm ma mv ml : Nat → Int32} {du dh dl : Nat → Int64} (C : ci N ak fr to wt op ck sm sa so dw dp hm hw hp) (R : ri N ak fr to wt op md mm ma mv ml du dh dl)
    (E : fm_end ck (gm (c_W sm)) (fun t => tq_x (fr (tq_x (sa t))))) (E' : fm_end md (gm (c_W mm)) (fun t => tq_x (fr (tq_x (ma t))))) {p0 : Int32} {x : Int64} :
    x - f_X0_sumOfDualsEntered ck fr to sm dw (tq_x p0) = t_X4_slack_47 fr to mm du p0 x md := by
  obtain ⟨-, π, hπ, pinj, psur⟩ := cr_size C R E E'
  unfold f_X0_sumOfDualsEntered
  rw [k_slack, k_duals, cr_sum (ck := ck) (md := md) (π := π) (q := fun s => decide (¬ f_X1_enters fr to (tq_x p0) (mm s) = 0)) (g := du) (fun s hs => ⟨(hπ s hs).1, by rw [(hπ s hs).2.1], (hπ s hs).2.2.2⟩) pinj psur]
theorem fc_full {p : Nat → Bool} {n : Nat} (h : n - fc p n = 0) : ∀ v, v < n → p v = true := by
  intro v hv
  refine Classical.byContradiction (fun c => ?_)
  have h1 : fc p n < fc (fun _ => true) n := fc_lt (u := v) n (fun _ _ _ => rfl) hv (by cases q : p v with
    | false => rfl
    | true => exact absurd q c) rfl
  rw [fc_all n (fun _ _ => rfl)] at h1
  omega
/-- the nodes and arcs -/
def jn (nk r ak : Nat) (fr to op : Nat → Int32) : Prop :=
  nk ≤ 24 ∧ r < nk ∧ ak ≤ 60 ∧ (∀ j, j < 60 → tq_r 24 (fr j)) ∧ (∀ j, j < 60 → tq_r 24 (to j)) ∧ (∀ j, j < ak → tq_x (fr j) < nk) ∧ (∀ j, j < ak → tq_x (to j) < nk) ∧ ∀ j, j < 60 → op j = 0 ∨ op j = 1
/-- the ranges of the other rows -/
def jr (ck : Nat) (sa so by_ ri re mi : Nat → Int32) : Prop :=
  ck ≤ 45 ∧ (∀ j, j < 45 → sa j = -1 ∨ tq_r 60 (sa j)) ∧ (∀ j, j < 45 → so j = -1 ∨ tq_r 45 (so j)) ∧ (∀ j, j < 45 → tq_r 45 (by_ j)) ∧ (∀ j, j < 24 → ri j = -1 ∨ tq_r 60 (ri j)) ∧ (∀ j, j < 24 → re j = 0 ∨ re j = 1) ∧ ∀ j, j < 24 → mi j < 0 ∨ tq_r 60 (mi j)
/-- one set, by its number -/
def js (sm sa so : Nat → Int32) (dw : Nat → Int64) (nu by_ : Nat → Int32) (mm ma mv ml : Nat → Int32) (du : Nat → Int64) (od : Nat → Int32) (k : Nat) : Prop :=
  sm (tq_x (by_ k)) = mm (tq_x (od k)) ∧ sa (tq_x (by_ k)) = ma (tq_x (od k)) ∧ dw (tq_x (by_ k)) = du (tq_x (od k)) ∧
    ((so (tq_x (by_ k)) = -1 ∧ ml (tq_x (od k)) = 1 ∧ mv (tq_x (od k)) = -1) ∨ (¬ so (tq_x (by_ k)) = -1 ∧ ml (tq_x (od k)) = 0 ∧ ∃ n, f_X0_numberOfOuter so nu (by_ k) = nI n ∧ ¬ mv (tq_x (od k)) < 0 ∧ q_num od (mv (tq_x (od k))) ∧ f_X4_numberOf od (mv (tq_x (od k))) = nI n))
/-- the tree and the sets, where there is a tree -/
def jt (nk r ak : Nat) (fr to : Nat → Int32) (wt : Nat → Int64) (ck : Nat) (sm sa so : Nat → Int32) (dw : Nat → Int64) (nu by_ ri : Nat → Int32) (md : Nat) (mi mm ma mv ml : Nat → Int32) (du : Nat → Int64) (od : Nat → Int32) : Prop :=
  ck = md ∧ (∀ v, v < nk → ri v = mi v) ∧ (∀ v, v < nk → v ≠ r → tq_r ak (mi v)) ∧ mi r = -1 ∧ (∀ v, v < nk → ∃ n, nw (fun v => tq_x (fr (tq_x (mi v)))) v n = r) ∧ (∀ j, j < md → tq_r md (od j)) ∧
    (∀ k, k < ck → tq_r (2 ^ 24) (mm (tq_x (od k))) ∧ js sm sa so dw nu by_ mm ma mv ml du od k) ∧ ∀ (p0 : Int32) (x : Int64), x - f_X0_sumOfDualsEntered ck fr to sm dw (tq_x p0) = t_X4_slack_47 fr to mm du p0 x md
section Solve
variable {nk r ak ck : Nat} {fr to : Nat → Int32} {wt : Nat → Int64} {op sm sa so : Nat → Int32} {dw dp : Nat → Int64} {wk hm : Nat → Int32} {hw hp : Nat → Int64} {nu by_ rj re mi mm ma me mv ml : Nat → Int32} {du dh dl : Nat → Int64} {od : Nat → Int32} {r0 r1 r2 : Int64}
theorem jv_solve (hn : jn nk r ak fr to op) (hr : jr ck sa so by_ rj re mi) :
    q_reach nk ak (nI r) fr to op re ∧ ((f_X4_reach nk (nI r) ak fr to op re).1 ≤ 0 → q_solve nk (nI r) ak fr to wt op mi mm ma mv ml du dh dl r0 r1 r2) ∧
    ((∃ (m : Nat) (re' : Nat → Int32), f_X3_solve nk (nI r) ak ck fr to wt op sm sa so dw dp wk hm hw hp nu by_ rj = (nI m, 1, 0, ck, sm, sa, so, dw, dp, wk, hm, hw, hp, nu, by_, rj) ∧
        f_X4_solve nk (nI r) ak r0 r1 r2 fr to wt op re mi mm ma me mv ml du dh dl od = (nI m, 1, 0, 0, 0, re', mi, mm, ma, me, mv, ml, du, dh, dl, od, r0, r1, r2) ∧ jr ck sa so by_ rj re' mi) ∨
      ∃ (ck' : Nat) (sm' sa' so' : Nat → Int32) (dw' dp' : Nat → Int64) (wk' hm' : Nat → Int32) (hw' hp' : Nat → Int64) (nu' by' rj' : Nat → Int32) (zd : Nat) (re' yi zm za ye zv zl : Nat → Int32) (zu zh zw : Nat → Int64) (od' : Nat → Int32) (q0 q1 q2 : Int64),
        f_X3_solve nk (nI r) ak ck fr to wt op sm sa so dw dp wk hm hw hp nu by_ rj = (0, 1, 1, ck', sm', sa', so', dw', dp', wk', hm', hw', hp', nu', by', rj') ∧
        f_X4_solve nk (nI r) ak r0 r1 r2 fr to wt op re mi mm ma me mv ml du dh dl od = (0, 1, 1, zd, 0, re', yi, zm, za, ye, zv, zl, zu, zh, zw, od', q0, q1, q2) ∧ jr ck' sa' so' by' rj' re' yi ∧ jt nk r ak fr to wt ck' sm' sa' so' dw' nu' by' rj' zd yi zm za zv zl zu od') := by
  obtain ⟨n1, n2, n3, n4, n5, n6, n7, n8⟩ := hn
  obtain ⟨h1, h2, h3, h4, h5, h6, h7⟩ := hr
  obtain ⟨k1, k2, k3, k4⟩ := k_reach (op := op) n1 n2 n7 n6 h6
  obtain ⟨-, a2⟩ := k_agree (op := op) n1 n2 n3 n4 n5 n7 n6 h6
  have hRof : (f_X4_reach nk (nI r) ak fr to op re).1 ≤ 0 → ∀ v, v < nk → fb_R (fun j => tq_x (fr j)) (fun j => tq_x (to j)) (fun j => ¬ op j = 0) ak r v := fun hle v hv => by
    rw [k4] at hle
    have h8 := (nI_leI (b := 0) (by omega) (by decide)).mp hle
    exact (k3 v hv).mp (of_decide_eq_true (fc_full (Nat.le_zero.mp h8) v hv))
  refine ⟨k1, fun hle => (r_all n1 n2 n3 n4 n5 n6 (hRof hle)).1, ?_⟩
  by_cases hle : (f_X4_reach nk (nI r) ak fr to op re).1 ≤ 0
  · right
    have hR := hRof hle
    have h0 : (f_X4_reach nk (nI r) ak fr to op re).1 = 0 := by
      rw [k4] at hle ⊢
      have h8 := (nI_leI (b := 0) (by omega) (by decide)).mp hle
      rw [Nat.le_zero.mp h8]; rfl
    obtain ⟨ck', sm', sa', so', dw', dp', wk', hm', hw', hp', eg, C, hck', E⟩ := c_grown (wt := wt) (sm := sm) (sa := sa) (so := so) (dw := dw) (dp := dp) (wk := wk) (hm := hm) (hw := hw) (hp := hp) (nu := nu) (by_ := by_) n1 n2 n3 n4 n5 n6 hR
    obtain ⟨-, more, zd, zm, zv, zl, za, zu, zh, zw, q0, q1, q2, ej, R, hzd, E'⟩ := r_all (wt := wt) (mi := mi) (mm := mm) (ma := ma) (mv := mv) (ml := ml) (du := du) (dh := dh) (dl := dl) (r0 := r0) (r1 := r1) (r2 := r2) n1 n2 n3 n4 n5 n6 hR
    have hgs := (k_grow (rt := nI r) (to := to) (wt := wt) (op := op) (sm := sm) (so := so) (dw := dw) (dp := dp) (wk := wk) (hm := hm) (hw := hw) (hp := hp) (nu := nu) (by_ := by_) n1 n3 n4 h2).2
    have hgo := k_growO (nk := nk) (rt := nI r) (ak := ak) (fr := fr) (to := to) (wt := wt) (op := op) (sm := sm) (sa := sa) (dw := dw) (dp := dp) (wk := wk) (hm := hm) (hw := hw) (hp := hp) (nu := nu) (by_ := by_) h3
    rw [eg] at hgs hgo
    dsimp only at hgs hgo
    obtain ⟨nu', by', en⟩ : ∃ nu' by', f_X0_numberSets ck' sm' nu by_ = (nu', by') := ⟨_, _, rfl⟩
    obtain ⟨od', eo⟩ : ∃ od', f_X4_number zd zm od = od' := ⟨_, rfl⟩
    rw [en] at eg
    dsimp only at eg
    obtain ⟨b1, b2, b3⟩ := cr_number n1 C R E E' hck' h4 en eo
    obtain ⟨mi0, hmi0⟩ : ∃ mi0, (t_X4_solve_32 (nI r) ak fr to wt op (mi, 0, mm, mv, ml, ma, du, dh, dl, r0, r1, r2) nk).1 = mi0 := ⟨_, rfl⟩
    have hzi : ∀ j, mi0 j = if j < nk then -1 else mi j := fun j => by rw [← hmi0]; exact k_zi nk j
    obtain ⟨ye, yi, ee, t1, t2, t3, t4, t5, t6⟩ := cr_tree (ri0 := rj) (me := me) (mi0 := mi0) n1 n2 n3 n5 n6 C R E E' hck' (by rw [hzi r, if_pos n2])
    obtain ⟨rj', erj⟩ : ∃ rj', f_X2_unfold ck' to sm' sa' rj = rj' := ⟨_, rfl⟩
    rw [erj] at t1 t2
    have hsz := (cr_size C R E E').1
    refine ⟨ck', sm', sa', so', dw', dp', wk', hm', hw', hp', nu', by', rj', zd, (f_X4_reach nk (nI r) ak fr to op re).2, yi, zm, za, ye, zv, zl, zu, zh, zw, od', q0, q1, q2, ?_, ?_, ⟨hck', hgs, hgo, b1, t2, k2, fun j hj => ?_⟩, hsz, t1, t3, t4, t6, b2, fun k hk => ⟨(R.2.1 _ (b2 k (by omega)).2).1, (b3 k hk).2⟩, fun p0 x => cr_slack C R E E'⟩
    · unfold f_X3_solve
      rw [a2, h0, if_pos rfl, eg]
      dsimp only
      rw [erj]
    · unfold f_X4_solve
      unfold u_join at ej
      rw [if_pos hle, ej, hmi0]
      dsimp only
      rw [ee, eo]
    · by_cases c : j < nk
      · by_cases d : j = r
        · subst d; left; rw [t4]; decide
        · right; exact tq_r_mono (t3 j c d) n3
      · rw [t5 j (fun h => c h.1), hzi j, if_neg c]
        exact h7 j hj
  · left
    refine ⟨nk - fc (fun v => decide (¬ (f_X4_reach nk (nI r) ak fr to op re).2 v = 0)) nk, (f_X4_reach nk (nI r) ak fr to op re).2, ?_, ?_, h1, h2, h3, h4, h5, k2, h7⟩
    · unfold f_X3_solve
      rw [a2, if_neg (fun h => hle (by rw [h]; decide)), ← k4]
    · unfold f_X4_solve
      rw [if_neg hle, ← k4]
end Solve
