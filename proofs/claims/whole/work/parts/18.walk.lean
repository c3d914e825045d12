/-! walk -/
theorem wk_inj {o : Nat} {E : Nat → Prop} {U : Nat → Nat} {e : Nat} {rk : Nat → Int32} {h g : Nat → Nat} {N : fz_N} (R : md_R o E U e rk h g N) {x y : Nat} (dx : md_D o E (md_v e rk) x) (dy : md_D o E (md_v e rk) y) (z : md_P o U g x = md_P o U g y) : x = y := by
  have hB := md_Bok R (g' := g) (k := 0) (fun c _ => rfl) (fun c h1 h2 => by omega)
  exact hB.1 _ _ (md_DB e 0 rk _ dx) (md_DB e 0 rk _ dy) z
/-- far ports of one port of the net, on both sides -/
theorem wk_far {n : Nat} {N : fz_N} {e l : Nat} {xk xw : Nat → Int32} {hx gx : Nat → Nat} (RX : xl_R n N e l xk xw hx gx) {e' l' m' : Nat} {rk' rf' rs' : Nat → Int32} {hy gy : Nat → Nat} (RY : yl_R n N e' l' m' rk' rf' rs' hy gy) {x y : Nat} (dx : md_D 0 xl_E (md_v e xk) x) (dy : md_D 4 yl_E (md_v e' rk') y) (exy : md_P 0 xl_U gx x = md_P 4 yl_U gy y) :
    md_D 0 xl_E (md_v e xk) (hx x) ∧ md_D 4 yl_E (md_v e' rk') (hy y) ∧ md_P 0 xl_U gx (hx x) = md_P 4 yl_U gy (hy y) ∧ (hx x = x ↔ hy y = y) := by
  have a := RX.1.2.2.2.2.2.2.2.1 x dx
  have b := RY.1.2.2.2.2.2.2.2.1 y dy
  have ef : md_P 0 xl_U gx (hx x) = md_P 4 yl_U gy (hy y) := by rw [← a.2, ← b.2, exy]
  refine ⟨a.1, b.1, ef, fun z => ?_, fun z => ?_⟩
  · refine wk_inj RY.1 b.1 dy ?_
    rw [← ef, z, exy]
  · refine wk_inj RX.1 a.1 dx ?_
    rw [ef, z, exy]
/-- a port of the net is an end, or a port of a live cell, on both sides -/
theorem wk_cls {n : Nat} {N : fz_N} {e l : Nat} {xk xw : Nat → Int32} {hx gx : Nat → Nat} (RX : xl_R n N e l xk xw hx gx) {e' l' m' : Nat} {rk' rf' rs' : Nat → Int32} {hy gy : Nat → Nat} (RY : yl_R n N e' l' m' rk' rf' rs' hy gy) {p q : Nat} (dx : md_D 0 xl_E (md_v e xk) p) (dy : md_D 4 yl_E (md_v e' rk') q) (epq : md_P 0 xl_U gx p = md_P 4 yl_U gy q) :
    (∃ j, j < 4 ∧ p = 30 + j ∧ q = j) ∨ ∃ i j s, p = md_p 0 i s ∧ q = md_p 4 j s ∧ i < e ∧ j < e' ∧ s < 3 ∧ s < md_v e xk i ∧ gx i = gy j ∧ xk i ≠ -1 ∧ rk' j = xk i := by
  have n6 := RX.1.2.1.1
  have n7 := RX.1.2.1.2
  have liv : ∀ {o : Nat} {E : Nat → Prop} {U : Nat → Nat} {e : Nat} {rk : Nat → Int32} {h g : Nat → Nat} (_ : md_R o E U e rk h g N) (x : Nat), o ≤ x → (x - o) % 3 < md_v e rk ((x - o) / 3) → (x - o) / 3 < e ∧ rk ((x - o) / 3) ≠ -1 ∧ g ((x - o) / 3) ≠ 26 ∧ g ((x - o) / 3) ≠ 27 := by
    intro o E U e rk h g R x ho hv
    have l : (x - o) / 3 < e := by
      by_cases c : (x - o) / 3 < e
      · exact c
      · unfold md_v at hv
        rw [if_neg c] at hv
        omega
    have k : rk ((x - o) / 3) ≠ -1 := by
      intro z
      unfold md_v at hv
      rw [if_pos l, z, md_pk_m] at hv
      omega
    have kk := R.2.2.1 _ l k
    refine ⟨l, k, fun z => k ?_, fun z => k ?_⟩
    · rw [← kk, z]; exact n6
    · rw [← kk, z]; exact n7
  rcases dx with dx | ⟨dx, cx⟩ <;> rcases dy with dy | ⟨dy, cy⟩
  · left
    have a := (RX.1.2.2.2.2.2.1 p dx).2.2.2
    have b := (RY.1.2.2.2.2.2.1 q dy).2.2.2
    rw [a, b] at epq
    unfold xl_E at dx
    unfold yl_E at dy
    unfold xl_U yl_U at epq
    refine ⟨q, dy, ?_, rfl⟩
    split at epq <;> omega
  · exfalso
    have a := (RX.1.2.2.2.2.2.1 p dx).2.1
    have b := liv RY.1 q dy cy
    have c : md_P 4 yl_U gy q = 6 * gy ((q - 4) / 3) + (q - 4) % 3 := by unfold md_P; rw [if_pos dy]
    rw [epq, c] at a
    omega
  · exfalso
    have a := (RY.1.2.2.2.2.2.1 q dy).2.1
    have b := liv RX.1 p dx cx
    have c : md_P 0 xl_U gx p = 6 * gx ((p - 0) / 3) + (p - 0) % 3 := by unfold md_P; rw [if_pos dx]
    rw [← epq, c] at a
    omega
  · right
    have a := liv RX.1 p dx cx
    have b := liv RY.1 q dy cy
    have c1 : md_P 0 xl_U gx p = 6 * gx ((p - 0) / 3) + (p - 0) % 3 := by unfold md_P; rw [if_pos dx]
    have c2 : md_P 4 yl_U gy q = 6 * gy ((q - 4) / 3) + (q - 4) % 3 := by unfold md_P; rw [if_pos dy]
    rw [c1, c2] at epq
    have ss : (p - 0) % 3 = (q - 4) % 3 := by omega
    have gg : gx ((p - 0) / 3) = gy ((q - 4) / 3) := by omega
    refine ⟨(p - 0) / 3, (q - 4) / 3, (p - 0) % 3, by unfold md_p; omega, by unfold md_p; omega, a.1, b.1, by omega, cx, gg, a.2.1, ?_⟩
    rw [← RY.1.2.2.1 _ b.1 b.2.1, ← gg, RX.1.2.2.1 _ a.1 a.2.1]
theorem xl_t2 {t : Nat} (h : t < 2 ^ 31) : nI t - nI t / 2 * 2 = nI (t % 2) := pk_rem (d := 2) h (by omega) (by omega)
theorem xl_d2 {t : Nat} (h : t < 2 ^ 31) : nI t / 2 = nI (t / 2) := pk_div (d := 2) h (by omega) (by omega)
/-- the slot behind a port, by the lowest digit of the turns -/
def wk_s (s t : Nat) : Nat := if t % 2 = 1 then (s + 1) % 3 else (s + 2) % 3
theorem wk_s3 (s t : Nat) : wk_s s t < 3 := by unfold wk_s; split <;> omega
theorem wk_pb {post : Int32 → Prop} {i s t : Nat} (hi : i < 492) (hs : s < 3) (ht : t < 2 ^ 31) (H : post (nI (md_p 0 i (wk_s s t)))) : wpX_portBehind post (nI (md_p 0 i s)) (nI t) := by
  have pb : md_p 0 i s < 1476 := xl_pb hi hs
  have es : md_p 0 i s % 3 = s := by unfold md_p; omega
  have key : ∀ z : Nat, z < 3 → (nI (md_p 0 i s) - nI s) + ((nI s + nI z) - (nI s + nI z) / 3 * 3) = nI (md_p 0 i ((s + z) % 3)) := by
    intro z hz
    rw [pk_sub (by unfold md_p; omega), nI_add, xl_rm (by omega), nI_add]
    congr 1
    unfold md_p
    omega
  unfold wk_s at H
  unfold wpX_portBehind
  rw [xl_rm (by omega), es, xl_t2 ht]
  refine ⟨by decide, nm_e ⟨by decide, ?_⟩⟩
  by_cases c : t % 2 = 1
  · rw [if_pos c] at H
    rw [c]
    refine br_t rfl ?_
    unfold wX_portBehind_16
    refine ⟨by decide, ?_⟩
    have := key 1 (by omega)
    rw [← this] at H
    exact H
  · rw [if_neg c] at H
    have c0 : t % 2 = 0 := by omega
    rw [c0]
    refine br_f (by decide) ?_
    unfold wX_portBehind_16
    refine ⟨by decide, ?_⟩
    have := key 2 (by omega)
    rw [← this] at H
    exact H
def wk_at (e : Nat) (xk : Nat → Int32) (gx : Nat → Nat) (e' : Nat) (rk' : Nat → Int32) (gy : Nat → Nat) (xa ya : Int32) : Prop :=
  (xa = -1 ∧ ya = -1) ∨ ∃ p q, xa = nI p ∧ ya = nI q ∧ md_D 0 xl_E (md_v e xk) p ∧ md_D 4 yl_E (md_v e' rk') q ∧ md_P 0 xl_U gx p = md_P 4 yl_U gy q
theorem wk_fo {n : Nat} {N : fz_N} {e l : Nat} {xk xw : Nat → Int32} {hx gx : Nat → Nat} (RX : xl_R n N e l xk xw hx gx) {e' l' m' : Nat} {rk' rf' rs' : Nat → Int32} {hy gy : Nat → Nat} (RY : yl_R n N e' l' m' rk' rf' rs' hy gy) {x y : Nat} (dx : md_D 0 xl_E (md_v e xk) x) (dy : md_D 4 yl_E (md_v e' rk') y) (exy : md_P 0 xl_U gx x = md_P 4 yl_U gy y) : wk_at e xk gx e' rk' gy (md_fo x (hx x)) (md_fo y (hy y)) := by
  obtain ⟨a, b, c, d⟩ := wk_far RX RY dx dy exy
  by_cases z : hx x = x
  · left
    rw [z, d.mp z]
    exact ⟨md_fo_s, md_fo_s⟩
  · right
    exact ⟨hx x, hy y, md_fo_n z, md_fo_n (fun w => z (d.mpr w)), a, b, c⟩
section
variable {fc fs fl fr : Int32} {ak aw ir re : Nat → Int32}
theorem wk_l {n : Nat} {N : fz_N} {e l : Nat} {xk xw : Nat → Int32} {hx gx : Nat → Nat} (RX : xl_R n N e l xk xw hx gx) (hn : n ≤ 120) : ∀ t, t ≤ 4095 → ∀ xa : Int32, (xa = -1 ∨ ∃ p, xa = nI p ∧ md_D 0 xl_E (md_v e xk) p) → ∃ r : Int32,
    (∀ post : Int32 → SX → Prop, post r (fc, nI e, fs, fl, fr, ak, aw, xk, xw, ir, re) → ∃ n43 : Nat, wX_walk_43 post fc (nI e) fs fl fr ak aw xk xw ir re n43 xa (nI t)) ∧
    (∀ (e' l' m' : Nat) (rk' rf' rs' : Nat → Int32) (hy gy : Nat → Nat), yl_R n N e' l' m' rk' rf' rs' hy gy → ∀ ya : Int32, wk_at e xk gx e' rk' gy xa ya → ∀ (gc gw gl gs : Int32) (bk bf bs mt : Nat → Int32) (post : Int32 → SY → Prop), post r (gc, gw, nI e', nI m', gl, gs, bk, bf, bs, rk', rf', rs', mt) → ∃ n41 : Nat, wY_walk_41 post gc gw (nI e') (nI m') gl gs bk bf bs rk' rf' rs' mt n41 ya (nI t)) := by
  have e4 := RX.2.2.2.2
  intro t
  induction t using Nat.strongRecOn with
  | ind t ih =>
  intro ht xa hxa
  rcases hxa with hxa | ⟨p, hxa, dp⟩
  · -- a port without a wire
    subst hxa
    refine ⟨9, fun post H => ⟨0 + 1, ?_⟩, fun e' l' m' rk' rf' rs' hy gy RY ya hat gc gw gl gs bk bf bs mt post H => ⟨0 + 1, ?_⟩⟩
    · have stop : wX_walk_81 post (-1) fc (nI e) fs fl fr ak aw xk xw ir re := by
        unfold wX_walk_81 wpX_stopAnswer
        exact br_t rfl H
      by_cases t0 : t = 0
      · rw [t0]
        exact br_t (by decide) stop
      · refine br_f (nI_nle (by omega) (by omega)) ?_
        unfold wpX_isPairPort
        exact br_t rfl (br_t rfl stop)
    · rcases hat with ⟨_, hat⟩ | ⟨p, q, hp, _, d, _⟩
      · rw [hat]
        refine br_t (by decide) ?_
        unfold wY_walk_118
        exact br_f (by decide) H
      · have := md_DB e 0 xk _ d
        unfold xl_E at this
        exact absurd hp.symm (xl_nm1 (by omega))
  · subst hxa
    have pl : p < 1476 := by
      have := md_DB e 0 xk _ dp
      unfold xl_E at this
      omega
    by_cases pE : xl_E p
    · -- an end
      have xd := (RX.1.2.2.2.2.2.1 p pE).1 (Nat.zero_le _)
      rw [Nat.sub_zero] at xd
      unfold xl_E at pE
      refine ⟨nI (10 + p - 30), fun post H => ⟨0 + 1, ?_⟩, fun e' l' m' rk' rf' rs' hy gy RY ya hat gc gw gl gs bk bf bs mt post H => ⟨0 + 1, ?_⟩⟩
      · have stop : wX_walk_81 post (nI p) fc (nI e) fs fl fr ak aw xk xw ir re := by
          unfold wX_walk_81 wpX_stopAnswer
          refine br_f (xl_nm1 (by omega)) (xl_ie (by omega) ?_)
          rw [if_pos pE]
          refine br_f (by decide) ?_
          have e1 : (10 + nI p) - 30 = nI (10 + p - 30) := by
            rw [show (10 : Int32) + nI p = nI (10 + p) from nI_add 10 p]
            exact pk_sub (b := 30) (by omega)
          rw [e1]
          exact H
        by_cases t0 : t = 0
        · rw [t0]
          exact br_t (by decide) stop
        · refine br_f (nI_nle (by omega) (by omega)) ?_
          unfold wpX_isPairPort wpX_isPair
          dsimp only
          rw [xl_dv (by omega), nI_clamp (by omega), xd.2]
          refine br_f (xl_nm1 (by omega)) ⟨by decide, vp_in_nI (by omega) (by omega), br_f (by decide) (br_f (by decide) (br_t rfl (br_t rfl stop)))⟩
      · rcases hat with ⟨hp, _⟩ | ⟨p', q, hp, hq, d, d', epq⟩
        · exact absurd hp (xl_nm1 (by omega))
        · have pp : p = p' := (nI_eq (by omega) (by have := md_DB e 0 xk _ d; unfold xl_E at this; omega)).mp hp
          subst pp
          rcases wk_cls RX RY d d' epq with ⟨j, j4, e1, e2⟩ | ⟨i, j, s, e1, _, hi, _, hs, hv, _⟩
          · subst e1 e2
            rw [hq]
            refine br_t (nI_le (b := 3) (by omega) (by omega)) ?_
            unfold wY_walk_118
            refine br_t (nI_pos' (by omega)) (br_f (nI_ge (b := 4) (by omega) (by omega)) ?_)
            rw [show (10 : Int32) + nI q = nI (10 + q) from nI_add 10 q]
            rw [show 10 + (30 + q) - 30 = 10 + q by omega] at H
            exact H
          · exfalso
            have q3 : p / 3 = i := by rw [e1]; unfold md_p; omega
            unfold md_v at hv
            rw [if_pos hi, ← q3, xd.2, md_pk_m] at hv
            omega
    · -- a port of a cell
      have cx : p % 3 < md_v e xk (p / 3) := by
        rcases dp with dp | ⟨_, dp⟩
        · exact absurd dp pE
        · rw [Nat.sub_zero] at dp; exact dp
      have ie : p / 3 < e := by
        by_cases c : p / 3 < e
        · exact c
        · unfold md_v at cx
          rw [if_neg c] at cx
          omega
      obtain ⟨i, hi⟩ : ∃ i, i = p / 3 := ⟨_, rfl⟩
      obtain ⟨s, hs⟩ : ∃ s, s = p % 3 := ⟨_, rfl⟩
      rw [← hi, ← hs] at cx
      rw [← hi] at ie
      have ep : p = md_p 0 i s := by unfold md_p; omega
      have s3 : s < 3 := by omega
      have li : xk i ≠ -1 := by
        intro z
        unfold md_v at cx
        rw [if_pos ie, z, md_pk_m] at cx
        omega
      have k := RX.1.2.2.1 i ie li
      have k3 : fz_k3 (xk i) := by
        rw [← k]
        exact (RX.1.1.2 _ (by rw [k]; exact li)).2.1
      have pE' : ¬ (30 ≤ p ∧ p ≤ 33) := pE
      have stop : ∀ post : Int32 → SX → Prop, post (3 * xk i + nI s) (fc, nI e, fs, fl, fr, ak, aw, xk, xw, ir, re) → wX_walk_81 post (nI p) fc (nI e) fs fl fr ak aw xk xw ir re := by
        intro post H
        unfold wX_walk_81 wpX_stopAnswer
        refine br_f (xl_nm1 (by omega)) (xl_ie (by omega) ?_)
        rw [if_neg pE', xl_rm (by omega), xl_dv (by omega), nI_clamp (by omega), ← hi, ← hs]
        exact br_t rfl ⟨by decide, vp_in_nI (by omega) (by omega), by decide, H⟩
      have ystop : ∀ (e' l' m' : Nat) (rk' rf' rs' : Nat → Int32) (hy gy : Nat → Nat), yl_R n N e' l' m' rk' rf' rs' hy gy → ∀ ya : Int32, wk_at e xk gx e' rk' gy (nI p) ya →
          ∃ j, j < e' ∧ ya = nI (md_p 4 j s) ∧ gx i = gy j ∧ rk' j = xk i ∧ ∀ (gc gw gl gs : Int32) (bk bf bs mt : Nat → Int32) (post : Int32 → SY → Prop), post (3 * xk i + nI s) (gc, gw, nI e', nI m', gl, gs, bk, bf, bs, rk', rf', rs', mt) → wY_walk_118 post (nI (md_p 4 j s)) gc gw (nI e') (nI m') gl gs bk bf bs rk' rf' rs' mt := by
        intro e' l' m' rk' rf' rs' hy gy RY ya hat
        have e4' := RY.2.2.2.1
        rcases hat with ⟨hp, _⟩ | ⟨p', q, hp, hq, d, d', epq⟩
        · exact absurd hp (xl_nm1 (by omega))
        · have pp : p = p' := (nI_eq (by omega) (by have := md_DB e 0 xk _ d; unfold xl_E at this; omega)).mp hp
          subst pp
          rcases wk_cls RX RY d d' epq with ⟨j, j4, e1, e2⟩ | ⟨i', j, s', e1, e2, hi', hj, hs', hv, hg, _, hr⟩
          · exfalso; omega
          · have ii : i' = i := by rw [hi, e1]; unfold md_p; omega
            have sse : s' = s := by rw [hs, e1]; unfold md_p; omega
            subst ii sse
            refine ⟨j, hj, by rw [hq, e2], hg, hr, fun gc gw gl gs bk bf bs mt post H => ?_⟩
            unfold wY_walk_118
            have e5 : nI (md_p 4 j s') - 4 = nI (3 * j + s') := by
              rw [show nI (md_p 4 j s') - 4 = nI (md_p 4 j s' - 4) from pk_sub (b := 4) (by unfold md_p; omega)]
              congr 1
              unfold md_p; omega
            rw [e5, xl_rm (by omega), xl_dv (by omega), show (3 * j + s') / 3 = j by omega, show (3 * j + s') % 3 = s' by omega, nI_clamp (by omega), hr]
            exact br_t (nI_pos' (by unfold md_p; omega)) (br_t (nI_le (a := 4) (by unfold md_p; omega) (by unfold md_p; omega)) ⟨by decide, vp_in_nI (by omega) (by omega), by decide, H⟩)
      have yhead : ∀ j, j < 490 → ¬ nI (md_p 4 j s) ≤ 3 := fun j hj => nI_ge (a := 3) (by unfold md_p; omega) (by unfold md_p; omega)
      by_cases t0 : t = 0
      · -- no turn left
        subst t0
        refine ⟨3 * xk i + nI s, fun post H => ⟨0 + 1, br_t (by decide) (stop post H)⟩, fun e' l' m' rk' rf' rs' hy gy RY ya hat gc gw gl gs bk bf bs mt post H => ?_⟩
        obtain ⟨j, hj, rfl, hg, hr, ys⟩ := ystop e' l' m' rk' rf' rs' hy gy RY ya hat
        have e4' := RY.2.2.2.1
        exact ⟨0 + 1, br_f (yhead j (by omega)) (br_t (by decide) (ys gc gw gl gs bk bf bs mt post H))⟩
      · by_cases k2 : xk i = 2
        · -- an eraser
          refine ⟨3 * xk i + nI s, fun post H => ⟨0 + 1, ?_⟩, fun e' l' m' rk' rf' rs' hy gy RY ya hat gc gw gl gs bk bf bs mt post H => ?_⟩
          · refine br_f (nI_nle (by omega) (by omega)) ?_
            unfold wpX_isPairPort wpX_isPair
            dsimp only
            rw [xl_dv (by omega), nI_clamp (by omega), ← hi, k2]
            have st := stop post H
            refine br_f (xl_nm1 (by omega)) ⟨by decide, vp_in_nI (by omega) (by omega), br_f (by decide) (br_f (by decide) (br_t rfl (br_t rfl st)))⟩
          · obtain ⟨j, hj, rfl, hg, hr, ys⟩ := ystop e' l' m' rk' rf' rs' hy gy RY ya hat
            have e4' := RY.2.2.2.1
            refine ⟨0 + 1, br_f (yhead j (by omega)) (br_f (nI_nle (by omega) (by omega)) ?_)⟩
            have e5 : nI (md_p 4 j s) - 4 = nI (3 * j + s) := by
              rw [show nI (md_p 4 j s) - 4 = nI (md_p 4 j s - 4) from pk_sub (b := 4) (by unfold md_p; omega)]
              congr 1
              unfold md_p; omega
            rw [e5, xl_dv (by omega), show (3 * j + s) / 3 = j by omega, nI_clamp (by omega), hr, k2]
            exact ⟨by decide, vp_in_nI (by omega) (by omega), br_t (by decide) (ys gc gw gl gs bk bf bs mt post H)⟩
        · -- onward
          have v3 : md_v e xk i = 3 := by
            unfold md_v
            rw [if_pos ie]
            rcases k3 with z | z | z
            · rw [z]; decide
            · rw [z]; decide
            · exact absurd z k2
          have kp : xk i = 0 ∨ xk i = 1 := by
            rcases k3 with z | z | z
            · exact Or.inl z
            · exact Or.inr z
            · exact absurd z k2
          have w3 := wk_s3 s t
          have dn : md_D 0 xl_E (md_v e xk) (md_p 0 i (wk_s s t)) := md_Dp (by rw [v3]; exact w3) w3
          have nb : md_p 0 i (wk_s s t) < 1476 := xl_pb (by omega) w3
          have dh := (RX.1.2.2.2.2.2.2.2.1 _ dn).1
          have hb := xl_Rb RX hn _ nb
          obtain ⟨r, rX, rY⟩ := ih (t / 2) (by omega) (by omega) (md_fo (md_p 0 i (wk_s s t)) (hx (md_p 0 i (wk_s s t)))) (by
            by_cases z : hx (md_p 0 i (wk_s s t)) = md_p 0 i (wk_s s t)
            · left; rw [z]; exact md_fo_s
            · right; exact ⟨_, md_fo_n z, dh⟩)
          refine ⟨r, fun post H => ?_, fun e' l' m' rk' rf' rs' hy gy RY ya hat gc gw gl gs bk bf bs mt post H => ?_⟩
          · obtain ⟨n', w⟩ := rX post H
            refine ⟨n' + 1, br_f (nI_nle (by omega) (by omega)) ?_⟩
            have pb : wpX_portBehind (fun r_46 => (vp_in r_46 1476 ∧ (∀ x3_48 : Int32, x3_48 = xw r_46.toNatClampNeg → (¬ (2 : Int32) = 0 ∧ (∀ x4_50 : Int32, x4_50 = nI t / 2 → (wX_walk_43 post fc (nI e) fs fl fr ak aw xk xw ir re n' x3_48 x4_50)))))) (nI p) (nI t) := by
              rw [ep]
              refine wk_pb (by omega) s3 (by omega) ⟨vp_in_nI nb (by omega), ?_⟩
              rw [nI_clamp (by omega), RX.2.1 _ nb, xl_d2 (by omega)]
              exact nm_e ⟨by decide, nm_e w⟩
            unfold wpX_isPairPort wpX_isPair
            dsimp only
            rw [xl_dv (by omega), nI_clamp (by omega), ← hi]
            refine br_f (xl_nm1 (by omega)) ⟨by decide, vp_in_nI (by omega) (by omega), ?_⟩
            rcases kp with z | z
            · rw [z]
              exact br_t rfl (br_f (by decide) (br_f (by decide) pb))
            · rw [z]
              exact br_f (by decide) (br_t rfl (br_f (by decide) (br_f (by decide) pb)))
          · obtain ⟨j, hj, rfl, hg, hr, ys⟩ := ystop e' l' m' rk' rf' rs' hy gy RY ya hat
            have e4' := RY.2.2.2.1
            have m3' := RY.2.2.2.2
            have dny : md_D 4 yl_E (md_v e' rk') (md_p 4 j (wk_s s t)) := by
              refine md_Dp ?_ w3
              have : md_v e' rk' j = md_v e xk i := by unfold md_v; rw [if_pos hj, if_pos ie, hr]
              rw [this, v3]; exact w3
            have eP : md_P 0 xl_U gx (md_p 0 i (wk_s s t)) = md_P 4 yl_U gy (md_p 4 j (wk_s s t)) := by rw [md_Pp w3, md_Pp w3, hg]
            obtain ⟨n', w⟩ := rY e' l' m' rk' rf' rs' hy gy RY _ (wk_fo RX RY dn dny eP) gc gw gl gs bk bf bs mt post H
            refine ⟨n' + 1, br_f (yhead j (by omega)) (br_f (nI_nle (by omega) (by omega)) ?_)⟩
            have e5 : nI (md_p 4 j s) - 4 = nI (3 * j + s) := by
              rw [show nI (md_p 4 j s) - 4 = nI (md_p 4 j s - 4) from pk_sub (b := 4) (by unfold md_p; omega)]
              congr 1
              unfold md_p; omega
            have fin : ∀ z : Nat, z < 3 → wk_s s t = (s + z) % 3 → wY_walk_95 post (wY_walk_41 post gc gw (nI e') (nI m') gl gs bk bf bs rk' rf' rs' mt n') (nI (md_p 4 j s)) (nI t) (nI s) (nI ((s + z) % 3)) gc gw (nI e') (nI m') gl gs bk bf bs rk' rf' rs' mt := by
              intro z hz ez
              unfold wY_walk_95
              refine ⟨by decide, ?_⟩
              rw [xl_d2 (by omega)]
              refine nm_e ?_
              have e6 : nI (md_p 4 j s) - nI s + nI ((s + z) % 3) = nI (md_p 4 j (wk_s s t)) := by
                rw [pk_sub (by unfold md_p; omega), nI_add, ez]
                congr 1
                unfold md_p; omega
              rw [e6]
              exact yl_ac (by omega) (yl_pb (by omega) w3) RY.2.1 w
            rw [e5, xl_rm (by omega), xl_dv (by omega), show (3 * j + s) / 3 = j by omega, show (3 * j + s) % 3 = s by omega, nI_clamp (by omega), hr, xl_t2 (by omega)]
            have n2 : ¬ (2 : Int32) ≤ xk i := by
              rcases kp with z | z
              · rw [z]; decide
              · rw [z]; decide
            refine ⟨by decide, vp_in_nI (by omega) (by omega), br_f n2 ⟨by decide, nm_e ⟨by decide, ?_⟩⟩⟩
            by_cases c : t % 2 = 1
            · have q := fin 1 (by omega) (by unfold wk_s; rw [if_pos c])
              rw [c]
              refine br_t rfl ⟨by decide, ?_⟩
              rw [xl_a1, xl_rm (by omega)]
              exact q
            · have q := fin 2 (by omega) (by unfold wk_s; rw [if_neg c])
              have c0 : t % 2 = 0 := by omega
              rw [c0]
              refine br_f (by decide) ⟨by decide, ?_⟩
              rw [xl_a2, xl_rm (by omega)]
              exact q
end
theorem wk_E {n : Nat} {N : fz_N} {e l : Nat} {xk xw : Nat → Int32} {hx gx : Nat → Nat} (RX : xl_R n N e l xk xw hx gx) {e' l' m' : Nat} {rk' rf' rs' : Nat → Int32} {hy gy : Nat → Nat} (RY : yl_R n N e' l' m' rk' rf' rs' hy gy) {j : Nat} (hj : j < 4) : md_D 0 xl_E (md_v e xk) (30 + j) ∧ md_D 4 yl_E (md_v e' rk') j ∧ md_P 0 xl_U gx (30 + j) = md_P 4 yl_U gy j := by
  have a : xl_E (30 + j) := ⟨by omega, by omega⟩
  have b : yl_E j := hj
  refine ⟨Or.inl a, Or.inl b, ?_⟩
  rw [(RX.1.2.2.2.2.2.1 _ a).2.2.2, (RY.1.2.2.2.2.2.1 _ b).2.2.2]
  unfold xl_U yl_U
  split <;> omega
theorem i_vc_walk {k : Nat} {u : SX} {v : SY} (I : i_Rel k u v) (hk : k + 3 ≤ 1536) (v1 : Int32) (v2 : Int32) : wpX_walk (fun r u' => wpY_walk (fun r' v' => r' = r ∧ i_Rel (k + 3) u' v') v v1 v2) u v1 v2 := by
  obtain ⟨fc, fe, fs, fl, fr, ak, aw, xk, xw, ir, re⟩ := u
  obtain ⟨gc, gw, ge, gm, gl, gs, bk, bf, bs, rk, rf, rs, mt⟩ := v
  obtain ⟨c, m, h, e1, e2, e3, e4, R⟩ := I
  dsimp only at e1 e2 e3 e4 R
  have e5 := e4.symm
  clear e4
  subst e1 e2 e3 e5
  unfold wpX_walk wpY_walk wpX_isEndIndex
  dsimp only
  by_cases z : v1 < 0
  · exact br_t z (br_t rfl (br_t z ⟨rfl, ir_mk R⟩))
  · obtain ⟨j, hj, rfl⟩ := nI_of z
    refine br_f z ?_
    by_cases j4 : j < 4
    · refine br_f (nI_ge (b := 4) j4 (by omega)) (br_f (by decide) ?_)
      have n3 : ¬ (3 : Int32) < nI j := nI_nlt (a := 3) (by omega) (by omega)
      by_cases z2 : v2 < 0
      · exact br_t z2 (br_f z (br_f n3 (br_t z2 ⟨rfl, ir_mk R⟩)))
      · obtain ⟨t, ht, rfl⟩ := nI_of z2
        refine br_f z2 ?_
        by_cases tl : t ≤ 4095
        · have tl' : nI t ≤ 4095 := nI_le (b := 4095) tl (by omega)
          refine br_t tl' ?_
          refine rn_b (ge := ge) (gm := gm) (gl := gl) (gs := gs) (rk := rk) (rf := rf) (rs := rs) (mt := mt) R (fun e l n xk' xw' hY => ?_) (fun n N e l xk' xw' hx gx hn no RX hY => ?_)
          · refine br_t rfl (br_f z (br_f n3 (br_f z2 (br_t tl' (hY _ (fun e' l' m' n rk' rf' rs' => ?_))))))
            exact br_t rfl ⟨rfl, ir_mk R⟩
          · have e4 := RX.2.2.2.2
            have d0 : md_D 0 xl_E (md_v e xk') (30 + j) := Or.inl ⟨by omega, by omega⟩
            have hb := xl_Rb RX hn (30 + j) (by omega)
            obtain ⟨r, rX, rY⟩ := wk_l (fc := nI c) (fs := nI n) (fl := nI l) (fr := fr) (ak := ak) (aw := aw) (ir := ir) (re := re) RX hn t tl (md_fo (30 + j) (hx (30 + j))) (by
              by_cases y : hx (30 + j) = 30 + j
              · left; rw [y]; exact md_fo_s
              · right; exact ⟨_, md_fo_n y, (RX.1.2.2.2.2.2.2.2.1 _ d0).1⟩)
            rw [show (30 : Int32) + nI j = nI (30 + j) from nI_add 30 j]
            refine br_f (by decide) ⟨vp_in_nI (by omega) (by omega), ?_⟩
            dsimp only
            rw [nI_clamp (by omega), RX.2.1 _ (by omega)]
            refine nm_e (rX _ ?_)
            refine br_f z (br_f n3 (br_f z2 (br_t tl' (hY _ (fun e' l' m' rk' rf' rs' hy gy RY => ?_)))))
            have m3' := RY.2.2.2.2
            obtain ⟨w1, w2, w3⟩ := wk_E RX RY j4
            refine br_f (by decide) ?_
            refine yl_ac (by omega) (by omega) RY.2.1 ?_
            exact rY e' l' m' rk' rf' rs' hy gy RY _ (wk_fo RX RY w1 w2 w3) _ _ _ _ _ _ _ _ _ ⟨rfl, ir_mk R⟩
        · have tl' : ¬ nI t ≤ 4095 := nI_ge (a := 4095) (by omega) ht
          exact br_f tl' (br_f z (br_f n3 (br_f z2 (br_f tl' ⟨rfl, ir_mk R⟩))))
    · exact br_t (nI_le (a := 4) (by omega) hj) (br_t rfl (br_f z (br_t (nI_lt (a := 3) (by omega) hj) ⟨rfl, ir_mk R⟩)))
