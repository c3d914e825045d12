/-! ports without a wire, counted -/
def op_q (o : Nat) (h : Nat → Nat) (c s : Nat) : Bool := decide (h (md_p o c s) = md_p o c s)
def op_T (o : Nat) (h v : Nat → Nat) : Nat → Nat
  | 0 => 0
  | c + 1 => op_T o h v c + cn_c (op_q o h c) (v c)
def op_a (o : Nat) (h v : Nat → Nat) (s c : Nat) : Bool := decide (s < v c ∧ h (md_p o c s) = md_p o c s)
theorem op_1 (q : Nat → Bool) (v : Nat) (hv : v ≤ 3) : cn_c q v = (if 0 < v ∧ q 0 = true then 1 else 0) + (if 1 < v ∧ q 1 = true then 1 else 0) + (if 2 < v ∧ q 2 = true then 1 else 0) := by
  have : v = 0 ∨ v = 1 ∨ v = 2 ∨ v = 3 := by omega
  rcases this with rfl | rfl | rfl | rfl <;> simp [cn_c]
theorem op_2 (o : Nat) (h v : Nat → Nat) (s c : Nat) : cn_c (op_a o h v s) (c + 1) = cn_c (op_a o h v s) c + (if s < v c ∧ op_q o h c s = true then 1 else 0) := by
  show cn_c _ c + _ = _
  congr 1
  unfold op_a op_q
  by_cases z : s < v c ∧ h (md_p o c s) = md_p o c s
  · rw [if_pos (decide_eq_true z), if_pos ⟨z.1, decide_eq_true z.2⟩]
  · have z2 : ¬ (s < v c ∧ decide (h (md_p o c s) = md_p o c s) = true) := fun w => z ⟨w.1, of_decide_eq_true w.2⟩
    have z1 : ¬ decide (s < v c ∧ h (md_p o c s) = md_p o c s) = true := fun w => z (of_decide_eq_true w)
    rw [if_neg z1, if_neg z2]
theorem op_TA (o : Nat) (h v : Nat → Nat) (hv : ∀ c, v c ≤ 3) : ∀ e, op_T o h v e = cn_c (op_a o h v 0) e + cn_c (op_a o h v 1) e + cn_c (op_a o h v 2) e
  | 0 => rfl
  | e + 1 => by
    show op_T o h v e + _ = _
    rw [op_TA o h v hv e, op_1 _ _ (hv e), op_2, op_2, op_2]
    omega
theorem op_le {o : Nat} {E : Nat → Prop} {U : Nat → Nat} {e : Nat} {rk : Nat → Int32} {h g : Nat → Nat} {N : fz_N} {o' : Nat} {E' : Nat → Prop} {U' : Nat → Nat} {e' : Nat} {rk' : Nat → Int32} {h' g' : Nat → Nat}
    (R : md_R o E U e rk h g N) (R' : md_R o' E' U' e' rk' h' g' N) {s : Nat} (h3 : s < 3) : cn_c (op_a o h (md_v e rk) s) e ≤ cn_c (op_a o' h' (md_v e' rk') s) e' := by
  have live : ∀ i, i < e → s < md_v e rk i → rk i ≠ -1 := by
    intro i hi hs z
    unfold md_v at hs
    rw [if_pos hi, z, md_pk_m] at hs
    omega
  refine cn_rel (R := fun i j => g' j = g i) e _ (fun i hi pi => ?_) (fun i i' j hi hi' pi pi' r1 r2 => ?_)
  · have p := of_decide_eq_true pi
    have l := live i hi p.1
    obtain ⟨j, h1, h2, h4⟩ := rn_iso R R' hi l
    have vv : md_v e' rk' j = md_v e rk i := by unfold md_v; rw [if_pos h1, if_pos hi, h2]
    refine ⟨j, h1, decide_eq_true ⟨by rw [vv]; exact p.1, ?_⟩, h4⟩
    rw [rn_op R' (by rw [vv]; exact p.1) h3, h4]
    exact (rn_op R p.1 h3).mp p.2
  · have p := of_decide_eq_true pi
    have p' := of_decide_eq_true pi'
    exact R.2.2.2.2.1 i i' hi hi' (live i hi p.1) (live i' hi' p'.1) (r1.symm.trans r2)
theorem op_v3 (e : Nat) (rk : Nat → Int32) (c : Nat) : md_v e rk c ≤ 3 := by
  unfold md_v
  split
  · exact md_pk_3 _
  · omega
theorem op_eq {o : Nat} {E : Nat → Prop} {U : Nat → Nat} {e : Nat} {rk : Nat → Int32} {h g : Nat → Nat} {N : fz_N} {o' : Nat} {E' : Nat → Prop} {U' : Nat → Nat} {e' : Nat} {rk' : Nat → Int32} {h' g' : Nat → Nat}
    (R : md_R o E U e rk h g N) (R' : md_R o' E' U' e' rk' h' g' N) : op_T o' h' (md_v e' rk') e' = op_T o h (md_v e rk) e := by
  rw [op_TA _ _ _ (op_v3 e rk), op_TA _ _ _ (op_v3 e' rk')]
  rw [Nat.le_antisymm (op_le R R' (s := 0) (by omega)) (op_le R' R (by omega)), Nat.le_antisymm (op_le R R' (s := 1) (by omega)) (op_le R' R (by omega)), Nat.le_antisymm (op_le R R' (s := 2) (by omega)) (op_le R' R (by omega))]
theorem xl_qs (c s : Nat) : (3 : Int32) * nI c + nI s = nI (md_p 0 c s) := by rw [xl_3, nI_add]; congr 1; unfold md_p; omega
section
variable {fc fe fs fl fr : Int32} {ak aw xk xw ir re : Nat → Int32} {gc gw ge gm gl gs : Int32} {bk bf bs rk rf rs mt : Nat → Int32}
theorem op_xi {post : Int32 → SX → Prop} {J : Int32 → Int32 → Prop} {c a v : Nat} {h : Nat → Nat} (hc : c < 492) (hv : v ≤ 3) (hb : xl_b h) (W : xl_W xw h) (H : J (nI (a + cn_c (op_q 0 h c) v)) (nI (c + 1))) :
    ∀ d s, s + d = v → wX_open_35 post J (nI c) (nI v) fc fe fs fl fr ak aw xk xw ir re (d + 1) (nI (a + cn_c (op_q 0 h c) s)) (nI s) := by
  intro d
  induction d with
  | zero =>
    intro s hs
    have : s = v := by omega
    subst this
    exact br_t (nI_le (by omega) (by omega)) (nm_r (nI_1 c) H)
  | succ d ih =>
    intro s hs
    have nx := ih (s + 1) (by omega)
    refine br_f (nI_ge (by omega) (by omega)) ?_
    have pb : md_p 0 c s < 1476 := xl_pb hc (by omega)
    rw [xl_qs, nI_clamp (show md_p 0 c s < 2 ^ 31 by omega), W _ pb]
    refine ⟨vp_in_nI pb (by omega), ?_⟩
    by_cases z : h (md_p 0 c s) = md_p 0 c s
    · have t : op_q 0 h c s = true := decide_eq_true z
      rw [cn_t t] at nx
      rw [z, md_fo_s]
      exact br_t rfl (nm_r (nI_1 _) (nm_r (nI_1 s) nx))
    · have t : op_q 0 h c s = false := decide_eq_false z
      rw [cn_f t] at nx
      refine br_f ?_ (nm_r (nI_1 s) nx)
      rw [md_fo_n z]
      have := hb _ pb
      exact xl_nm1 (by omega)
theorem op_x {post : Int32 → SX → Prop} {n : Nat} {N : fz_N} {e l : Nat} {h g : Nat → Nat} (R : xl_R n N e l xk xw h g) (hn : n ≤ 120) (H : post (nI (op_T 0 h (md_v e xk) e)) (fc, nI e, fs, fl, fr, ak, aw, xk, xw, ir, re)) : ∃ n14 : Nat, wX_open_14 post fc (nI e) fs fl fr ak aw xk xw ir re n14 0 0 := by
  have e4 := R.2.2.2.2
  have key : ∀ d i, i + d = e → wX_open_14 post fc (nI e) fs fl fr ak aw xk xw ir re (d + 1) (nI (op_T 0 h (md_v e xk) i)) (nI i) := by
    intro d
    induction d with
    | zero =>
      intro i hi
      have : i = e := by omega
      subst this
      exact br_t (nI_le (by omega) (by omega)) H
    | succ d ih =>
      intro i hi
      have nx := ih (i + 1) (by omega)
      refine br_f (nI_ge (by omega) (by omega)) ?_
      rw [nI_clamp (show i < 2 ^ 31 by omega)]
      refine ⟨vp_in_nI (by omega) (by omega), ?_⟩
      refine xl_pkd ?_
      have vi : md_v e xk i = md_pk (xk i) := by unfold md_v; rw [if_pos (by omega)]
      refine ⟨md_pk (xk i) + 1, ?_⟩
      refine op_xi (a := op_T 0 h (md_v e xk) i) (h := h) (by omega) (md_pk_3 _) (xl_Rb R hn) R.2.1 ?_ (md_pk (xk i)) 0 (by omega)
      rw [← vi]
      exact nx
  exact ⟨_, key e 0 (by omega)⟩
theorem op_yi {post : Int32 → SY → Prop} {J : Int32 → Int32 → Prop} {c a v m : Nat} {h : Nat → Nat} (hm : m ≤ 520) (hc : c < 500) (hv : v ≤ 3) (W : yl_W m rf rs h) (H : J (nI (a + cn_c (op_q 4 h c) v)) (nI (c + 1))) :
    ∀ d s, s + d = v → wY_open_54 post J (nI c) (nI v) gc gw ge (nI m) gl gs bk bf bs rk rf rs mt (d + 1) (nI (a + cn_c (op_q 4 h c) s)) (nI s) := by
  intro d
  induction d with
  | zero =>
    intro s hs
    have : s = v := by omega
    subst this
    exact br_t (nI_le (by omega) (by omega)) (nm_r (nI_1 c) H)
  | succ d ih =>
    intro s hs
    have nx := ih (s + 1) (by omega)
    refine br_f (nI_ge (by omega) (by omega)) ?_
    refine yl_po ?_
    obtain ⟨f, g, A, G⟩ := W
    refine yl_wo hm (yl_pb (by omega) (by omega)) A G (fun z => ?_) (fun i hi z => ?_)
    · have t : op_q 4 h c s = true := decide_eq_true z
      rw [cn_t t] at nx
      exact br_f (by decide) (nm_r (nI_1 _) (nm_r (nI_1 s) nx))
    · have gi := G.1 i hi
      have nz : h (md_p 4 c s) ≠ md_p 4 c s := by
        rcases z with z | ⟨_, z⟩
        · rw [← z, gi.2.2.2.1]; exact fun w => gi.2.2.1 w.symm
        · rw [← z, gi.2.2.2.2]; exact gi.2.2.1
      have t : op_q 4 h c s = false := decide_eq_false nz
      rw [cn_f t] at nx
      exact br_t (nI_pos' (by omega)) (nm_r (nI_1 s) nx)
theorem op_y {post : Int32 → SY → Prop} {n : Nat} {N : fz_N} {e l m : Nat} {h g : Nat → Nat} (R : yl_R n N e l m rk rf rs h g) (hn : n ≤ 120) (H : post (nI (op_T 4 h (md_v e rk) e)) (gc, gw, nI e, nI m, gl, gs, bk, bf, bs, rk, rf, rs, mt)) : ∃ n14 : Nat, wY_open_14 post gc gw (nI e) (nI m) gl gs bk bf bs rk rf rs mt n14 0 0 := by
  have e4 := R.2.2.2.1
  have m3 := R.2.2.2.2
  have key : ∀ d i, i + d = e → wY_open_14 post gc gw (nI e) (nI m) gl gs bk bf bs rk rf rs mt (d + 1) (nI (op_T 4 h (md_v e rk) i)) (nI i) := by
    intro d
    induction d with
    | zero =>
      intro i hi
      have : i = e := by omega
      subst this
      exact br_t (nI_le (by omega) (by omega)) H
    | succ d ih =>
      intro i hi
      have nx := ih (i + 1) (by omega)
      refine br_f (nI_ge (by omega) (by omega)) ?_
      rw [nI_clamp (show i < 2 ^ 31 by omega)]
      refine ⟨vp_in_nI (by omega) (by omega), ?_⟩
      have vi : md_v e rk i = md_pk (rk i) := by unfold md_v; rw [if_pos (by omega)]
      have inn : ∀ v, md_pk (rk i) = v → ∃ n54 : Nat, wY_open_54 post (wY_open_14 post gc gw (nI e) (nI m) gl gs bk bf bs rk rf rs mt (d + 1)) (nI i) (nI v) gc gw (nI e) (nI m) gl gs bk bf bs rk rf rs mt n54 (nI (op_T 4 h (md_v e rk) i)) 0 := by
        intro v hv
        refine ⟨v + 1, ?_⟩
        refine op_yi (a := op_T 4 h (md_v e rk) i) (h := h) (by omega) (by omega) (by rw [← hv]; exact md_pk_3 _) R.2.1 ?_ v 0 (by omega)
        rw [← hv, ← vi]
        exact nx
      by_cases z : rk i = -1
      · refine br_f (by rw [z]; decide) (inn 0 (by rw [z]; decide))
      · have k := R.1.2.2.1 i (by omega) z
        have k3 : fz_k3 (rk i) := by
          rw [← k]
          exact (R.1.1.2 _ (by rw [k]; exact z)).2.1
        refine br_t (by rcases k3 with w | w | w <;> rw [w] <;> decide) ⟨vp_in_nI (by omega) (by omega), ?_⟩
        by_cases y : rk i = 2
        · exact br_t y (inn 1 (by rw [y]; decide))
        · refine br_f y (inn 3 ?_)
          rcases k3 with w | w | w
          · rw [w]; decide
          · rw [w]; decide
          · exact absurd w y
  exact ⟨_, key e 0 (by omega)⟩
end
theorem i_vc_open {k : Nat} {u : SX} {v : SY} (I : i_Rel k u v) (hk : k + 3 ≤ 1536) : wpX_open (fun r u' => wpY_open (fun r' v' => r' = r ∧ i_Rel (k + 3) u' v') v) u := by
  obtain ⟨fc, fe, fs, fl, fr, ak, aw, xk, xw, ir, re⟩ := u
  obtain ⟨gc, gw, ge, gm, gl, gs, bk, bf, bs, rk, rf, rs, mt⟩ := v
  obtain ⟨c, m, h, e1, e2, e3, e4, R⟩ := I
  dsimp only at e1 e2 e3 e4 R
  have e5 := e4.symm
  clear e4
  subst e1 e2 e3 e5
  unfold wpX_open wpY_open
  dsimp only
  refine rn_b (ge := ge) (gm := gm) (gl := gl) (gs := gs) (rk := rk) (rf := rf) (rs := rs) (mt := mt) R (fun e l n xk' xw' hY => ?_) (fun n N e l xk' xw' hx gx hn no RX hY => ?_)
  · refine br_t rfl (hY _ (fun e' l' m' n rk' rf' rs' => ?_))
    exact br_t rfl ⟨rfl, ir_mk R⟩
  · refine br_f (by decide) (op_x RX hn ?_)
    refine hY _ (fun e' l' m' rk' rf' rs' hy gy RY => ?_)
    refine br_f (by decide) (op_y RY hn ⟨?_, ir_mk R⟩)
    rw [op_eq RX.1 RY.1]
