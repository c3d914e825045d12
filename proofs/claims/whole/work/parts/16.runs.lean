/-! both runs from related objects; steps, loops, left -/
section
variable {fc fe fs fl fr : Int32} {ak aw xk xw ir re : Nat → Int32} {gc gw ge gm gl gs : Int32} {bk bf bs rk rf rs mt : Nat → Int32}
theorem rn_b {QX : Int32 → SX → Prop} {c m : Nat} {h : Nat → Nat} (R : ir_R c m ak aw bf bs h)
    (hT : ∀ e l n xk' xw', (∀ QY : Int32 → SY → Prop, (∀ e' l' m' n rk' rf' rs', QY 0 (nI c, nI m, nI e', nI m', nI l', nI n, ak, bf, bs, rk', rf', rs', mt)) → wpY_run QY (nI c, nI m, ge, gm, gl, gs, ak, bf, bs, rk, rf, rs, mt)) → QX 0 (nI c, nI e, nI n, nI l, fr, ak, aw, xk', xw', ir, re))
    (hR : ∀ n N e l xk' xw' hx gx, n ≤ 120 → fz_no N → xl_R n N e l xk' xw' hx gx → (∀ QY : Int32 → SY → Prop, (∀ e' l' m' rk' rf' rs' hy gy, yl_R n N e' l' m' rk' rf' rs' hy gy → QY 1 (nI c, nI m, nI e', nI m', nI l', nI n, ak, bf, bs, rk', rf', rs', mt)) → wpY_run QY (nI c, nI m, ge, gm, gl, gs, ak, bf, bs, rk, rf, rs, mt)) → QX 1 (nI c, nI e, nI n, nI l, fr, ak, aw, xk', xw', ir, re)) :
    wpX_runComesToRest QX (nI c, fe, fs, fl, fr, ak, aw, xk, xw, ir, re) := by
  have m17 := ir_m R
  obtain ⟨c10, k3, H, W, Y⟩ := R
  have ok := ir_ok c10 k3 H
  refine xl_run c10 rfl (fun rk' rw' h1 h2 => ir_X c10 k3 H W h1 h2) (fun k N e l xk' xw' hx gx hk pa RX => ⟨fun no => ?_, fun k1 nno => ?_⟩)
  · refine hR k N e l xk' xw' hx gx hk no RX (fun QY hY => ?_)
    refine yl_run c10 rfl (by omega) rfl (fun rk' rf' rs' h1 h2 => ir_Y c10 (by omega) k3 H Y h1 h2) (fun k' N' e' l' m' rk' rf' rs' hy gy hk' pa' RY => ⟨fun no' => ?_, fun k1 nno => ?_⟩)
    · have fin := (fz_fin ok pa pa' hk hk' (Or.inr no) (Or.inr no')).2 no
      obtain ⟨f1, f2⟩ := fin
      subst f1 f2
      exact hY e' l' m' rk' rf' rs' hy gy RY
    · exact absurd ((fz_fin ok pa pa' hk hk' (Or.inr no) (Or.inl k1)).1.mp no) nno
  · refine hT e l k xk' xw' (fun QY hY => ?_)
    refine yl_run c10 rfl (by omega) rfl (fun rk' rf' rs' h1 h2 => ir_Y c10 (by omega) k3 H Y h1 h2) (fun k' N' e' l' m' rk' rf' rs' hy gy hk' pa' RY => ⟨fun no' => ?_, fun k1' nno' => ?_⟩)
    · exact absurd ((fz_fin ok pa pa' hk hk' (Or.inl k1) (Or.inr no')).1.mpr no') nno
    · exact hY e' l' m' k' rk' rf' rs'
end
/-- two states that one net is: a live cell of the one is a live cell of the other -/
theorem rn_iso {o : Nat} {E : Nat → Prop} {U : Nat → Nat} {e : Nat} {rk : Nat → Int32} {h g : Nat → Nat} {N : fz_N} {o' : Nat} {E' : Nat → Prop} {U' : Nat → Nat} {e' : Nat} {rk' : Nat → Int32} {h' g' : Nat → Nat}
    (R : md_R o E U e rk h g N) (R' : md_R o' E' U' e' rk' h' g' N) {i : Nat} (hi : i < e) (li : rk i ≠ -1) : ∃ j, j < e' ∧ rk' j = rk i ∧ g' j = g i := by
  have k := R.2.2.1 i hi li
  have l : N.1 (g i) ≠ -1 := by rw [k]; exact li
  obtain ⟨j, h1, h2, h3⟩ := R'.2.2.2.1 (g i) l
  refine ⟨j, h1, ?_, h3⟩
  rw [← R'.2.2.1 j h1 h2, h3, k]
theorem rn_op {o : Nat} {E : Nat → Prop} {U : Nat → Nat} {e : Nat} {rk : Nat → Int32} {h g : Nat → Nat} {N : fz_N} (R : md_R o E U e rk h g N) {i s : Nat} (hs : s < md_v e rk i) (h3 : s < 3) :
    h (md_p o i s) = md_p o i s ↔ N.2.1 (6 * g i + s) = 6 * g i + s := by
  have hB := md_Bok R (g' := g) (k := 0) (fun c _ => rfl) (fun c h1 h2 => by omega)
  have r6 := R.2.2.2.2.2.2.2
  have D := md_Dp (o := o) (E := E) hs h3
  have q := r6.1 _ D
  have eP : md_P o U g (md_p o i s) = 6 * g i + s := md_Pp h3
  rw [eP] at q
  constructor
  · intro z
    rw [q.2, z, eP]
  · intro z
    refine hB.1 _ _ (md_DB e 0 rk _ q.1) (md_DB e 0 rk _ D) ?_
    rw [← q.2, z, eP]
section
variable {fc fe fs fl fr : Int32} {ak aw xk xw ir re : Nat → Int32} {gc gw ge gm gl gs : Int32} {bk bf bs rk rf rs mt : Nat → Int32}
theorem lf_x {post : Int32 → SX → Prop} {e : Nat} {k : Int32} (he : e ≤ 492) (H : post (nI (cn_c (fun i => decide (xk i = k)) e)) (fc, nI e, fs, fl, fr, ak, aw, xk, xw, ir, re)) : ∃ n23 : Nat, wX_left_23 post k fc (nI e) fs fl fr ak aw xk xw ir re n23 0 0 := by
  have key : ∀ d i, i + d = e → wX_left_23 post k fc (nI e) fs fl fr ak aw xk xw ir re (d + 1) (nI (cn_c (fun i => decide (xk i = k)) i)) (nI i) := by
    intro d
    induction d with
    | zero =>
      intro i hi
      have : i = e := by omega
      subst this
      exact br_t (nI_le (by omega) (by omega)) H
    | succ d ih =>
      intro i hi
      have nx := ih (i + 1) (by omega)
      refine br_f (nI_ge (by omega) (by omega)) ?_
      rw [nI_clamp (show i < 2 ^ 31 by omega)]
      refine ⟨vp_in_nI (by omega) (by omega), ?_⟩
      by_cases z : xk i = k
      · rw [cn_t (decide_eq_true z)] at nx
        exact br_t z (nm_r (nI_1 _) (nm_r (nI_1 i) nx))
      · rw [cn_f (decide_eq_false z)] at nx
        exact br_f z (nm_r (nI_1 i) nx)
  exact ⟨_, key e 0 (by omega)⟩
theorem lf_y {post : Int32 → Prop} {e : Nat} {k : Int32} (he : e ≤ 500) (H : post (nI (cn_c (fun i => decide (rk i = k)) e))) : wpY_countLeft post (gc, gw, nI e, gm, gl, gs, bk, bf, bs, rk, rf, rs, mt) k := by
  have key : ∀ d i, i + d = e → wY_countLeft_4 post k gc gw (nI e) gm gl gs bk bf bs rk rf rs mt (d + 1) (nI (cn_c (fun i => decide (rk i = k)) i)) (nI i) := by
    intro d
    induction d with
    | zero =>
      intro i hi
      have : i = e := by omega
      subst this
      exact br_t (nI_le (by omega) (by omega)) H
    | succ d ih =>
      intro i hi
      have nx := ih (i + 1) (by omega)
      refine br_f (nI_ge (by omega) (by omega)) ?_
      rw [nI_clamp (show i < 2 ^ 31 by omega)]
      refine ⟨vp_in_nI (by omega) (by omega), ?_⟩
      by_cases z : rk i = k
      · rw [cn_t (decide_eq_true z)] at nx
        exact br_t z (nm_r (nI_1 _) (nm_r (nI_1 i) nx))
      · rw [cn_f (decide_eq_false z)] at nx
        exact br_f z (nm_r (nI_1 i) nx)
  exact ⟨_, key e 0 (by omega)⟩
end
theorem lf_le {o : Nat} {E : Nat → Prop} {U : Nat → Nat} {e : Nat} {rk : Nat → Int32} {h g : Nat → Nat} {N : fz_N} {o' : Nat} {E' : Nat → Prop} {U' : Nat → Nat} {e' : Nat} {rk' : Nat → Int32} {h' g' : Nat → Nat}
    (R : md_R o E U e rk h g N) (R' : md_R o' E' U' e' rk' h' g' N) {k : Int32} (hk : k ≠ -1) : cn_c (fun i => decide (rk i = k)) e ≤ cn_c (fun i => decide (rk' i = k)) e' := by
  refine cn_rel (R := fun i j => g' j = g i) e _ (fun i hi pi => ?_) (fun i i' j hi hi' pi pi' r1 r2 => ?_)
  · have p := of_decide_eq_true pi
    obtain ⟨j, h1, h2, h3⟩ := rn_iso R R' hi (by rw [p]; exact hk)
    exact ⟨j, h1, decide_eq_true (h2.trans p), h3⟩
  · have p := of_decide_eq_true pi
    have p' := of_decide_eq_true pi'
    exact R.2.2.2.2.1 i i' hi hi' (by rw [p]; exact hk) (by rw [p']; exact hk) (r1.symm.trans r2)
theorem i_vc_steps {k : Nat} {u : SX} {v : SY} (I : i_Rel k u v) (hk : k + 3 ≤ 1536) : wpX_steps (fun r u' => wpY_steps (fun r' v' => r' = r ∧ i_Rel (k + 3) u' v') v) u := by
  obtain ⟨fc, fe, fs, fl, fr, ak, aw, xk, xw, ir, re⟩ := u
  obtain ⟨gc, gw, ge, gm, gl, gs, bk, bf, bs, rk, rf, rs, mt⟩ := v
  obtain ⟨c, m, h, e1, e2, e3, e4, R⟩ := I
  dsimp only at e1 e2 e3 e4 R
  have e5 := e4.symm
  clear e4
  subst e1 e2 e3 e5
  unfold wpX_steps wpY_steps
  dsimp only
  refine rn_b (ge := ge) (gm := gm) (gl := gl) (gs := gs) (rk := rk) (rf := rf) (rs := rs) (mt := mt) R (fun e l n xk' xw' hY => ?_) (fun n N e l xk' xw' hx gx hn no RX hY => ?_)
  · refine br_t rfl (hY _ (fun e' l' m' n rk' rf' rs' => ?_))
    exact br_t rfl ⟨rfl, ir_mk R⟩
  · refine br_f (by decide) (hY _ (fun e' l' m' rk' rf' rs' hy gy RY => ?_))
    exact br_f (by decide) ⟨rfl, ir_mk R⟩
theorem i_vc_loops {k : Nat} {u : SX} {v : SY} (I : i_Rel k u v) (hk : k + 3 ≤ 1536) : wpX_loops (fun r u' => wpY_loops (fun r' v' => r' = r ∧ i_Rel (k + 3) u' v') v) u := by
  obtain ⟨fc, fe, fs, fl, fr, ak, aw, xk, xw, ir, re⟩ := u
  obtain ⟨gc, gw, ge, gm, gl, gs, bk, bf, bs, rk, rf, rs, mt⟩ := v
  obtain ⟨c, m, h, e1, e2, e3, e4, R⟩ := I
  dsimp only at e1 e2 e3 e4 R
  have e5 := e4.symm
  clear e4
  subst e1 e2 e3 e5
  unfold wpX_loops wpY_loops
  dsimp only
  refine rn_b (ge := ge) (gm := gm) (gl := gl) (gs := gs) (rk := rk) (rf := rf) (rs := rs) (mt := mt) R (fun e l n xk' xw' hY => ?_) (fun n N e l xk' xw' hx gx hn no RX hY => ?_)
  · refine br_t rfl (hY _ (fun e' l' m' n rk' rf' rs' => ?_))
    exact br_t rfl ⟨rfl, ir_mk R⟩
  · refine br_f (by decide) (hY _ (fun e' l' m' rk' rf' rs' hy gy RY => ?_))
    refine br_f (by decide) ⟨?_, ir_mk R⟩
    have a := RX.2.2.1
    have b := RY.2.2.1
    have : l' = l := by omega
    dsimp only
    rw [this]
theorem i_vc_left {k : Nat} {u : SX} {v : SY} (I : i_Rel k u v) (hk : k + 3 ≤ 1536) (v1 : Int32) : wpX_left (fun r u' => wpY_left (fun r' v' => r' = r ∧ i_Rel (k + 3) u' v') v v1) u v1 := by
  obtain ⟨fc, fe, fs, fl, fr, ak, aw, xk, xw, ir, re⟩ := u
  obtain ⟨gc, gw, ge, gm, gl, gs, bk, bf, bs, rk, rf, rs, mt⟩ := v
  obtain ⟨c, m, h, e1, e2, e3, e4, R⟩ := I
  dsimp only at e1 e2 e3 e4 R
  have e5 := e4.symm
  clear e4
  subst e1 e2 e3 e5
  unfold wpX_left wpY_left wpX_isKind
  dsimp only
  by_cases z : v1 < 0
  · exact br_t z (br_t rfl (br_t z ⟨rfl, ir_mk R⟩))
  · have nm : v1 ≠ -1 := fun e => z (by rw [e]; decide)
    obtain ⟨j, hj, rfl⟩ := nI_of z
    refine br_f z ?_
    by_cases l3 : j < 3
    · refine br_f (nI_ge (b := 3) l3 (by omega)) (br_f (by decide) ?_)
      have le2 : nI j ≤ 2 := nI_le (b := 2) (by omega) (by omega)
      refine rn_b (ge := ge) (gm := gm) (gl := gl) (gs := gs) (rk := rk) (rf := rf) (rs := rs) (mt := mt) R (fun e l n xk' xw' hY => ?_) (fun n N e l xk' xw' hx gx hn no RX hY => ?_)
      · refine br_t rfl (br_f z (br_t le2 (hY _ (fun e' l' m' n rk' rf' rs' => ?_))))
        exact br_t rfl ⟨rfl, ir_mk R⟩
      · have e4 := RX.2.2.2.2
        refine br_f (by decide) (lf_x (by omega) ?_)
        refine br_f z (br_t le2 (hY _ (fun e' l' m' rk' rf' rs' hy gy RY => ?_)))
        have e4' := RY.2.2.2.1
        refine br_f (by decide) (lf_y (by omega) ⟨?_, ir_mk R⟩)
        rw [Nat.le_antisymm (lf_le RY.1 RX.1 nm) (lf_le RX.1 RY.1 nm)]
    · exact br_t (nI_le (a := 3) (by omega) hj) (br_t rfl (br_f z (br_f (nI_ge (a := 2) (by omega) hj) ⟨rfl, ir_mk R⟩)))
