/-! the relation, and the methods that run nothing -/
def i_Rel (k : Nat) (u : SX) (v : SY) : Prop := ∃ (c m : Nat) (h : Nat → Nat), u.1 = nI c ∧ v.1 = nI c ∧ v.2.1 = nI m ∧ v.2.2.2.2.2.2.1 = u.2.2.2.2.2.1 ∧ ir_R c m u.2.2.2.2.2.1 u.2.2.2.2.2.2.1 v.2.2.2.2.2.2.2.1 v.2.2.2.2.2.2.2.2.1 h
theorem i_up {k : Nat} {u : SX} {v : SY} (h : i_Rel k u v) : i_Rel (k + 3) u v := h
section
variable {fc fe fs fl fr : Int32} {ak aw xk xw ir re : Nat → Int32} {gc gw ge gm gl gs : Int32} {bk bf bs rk rf rs mt : Nat → Int32}
theorem ir_mk {k c m : Nat} {h : Nat → Nat} (R : ir_R c m ak aw bf bs h) : i_Rel k (nI c, fe, fs, fl, fr, ak, aw, xk, xw, ir, re) (nI c, nI m, ge, gm, gl, gs, ak, bf, bs, rk, rf, rs, mt) := ⟨c, m, h, rfl, rfl, rfl, rfl, R⟩
theorem ir_0 (hw : ∀ p, p < 34 → aw p = -1) : ir_R 0 0 ak aw bf bs (fun p => p) := by
  refine ⟨by omega, fun i hi => by omega, ⟨fun x => rfl, fun p hp => hp, fun p _ => rfl⟩, fun p hp => ?_, fun _ => 0, fun _ => 0, fun i hi => by omega, fun i hi => by omega, fun p hp => ?_, fun i j hi => by omega, fun i j hi => by omega⟩
  · rw [hw p hp]
    exact md_fo_s.symm
  · exact absurd (ir_io p) hp
theorem xl_ta {post : SX → Prop} (H : ∀ aw', (∀ p, p < 34 → aw' p = -1) → post (0, fe, fs, fl, fr, ak, aw', xk, xw, ir, re)) : wpX_takeAllAway post (fc, fe, fs, fl, fr, ak, aw, xk, xw, ir, re) := by
  have key : ∀ d i aw, i + d = 34 → (∀ p, p < i → aw p = -1) → wX_takeAllAway_7 post 0 fe fs fl fr (d + 1) (nI i) ak aw xk xw ir re := by
    intro d
    induction d with
    | zero =>
      intro i aw hi hq
      exact br_t (nI_le (a := 34) (by omega) (by omega)) (H aw (fun p hp => hq p (by omega)))
    | succ d ih =>
      intro i aw hi hq
      refine br_f (nI_ge (b := 34) (by omega) (by omega)) ?_
      rw [nI_clamp (show i < 2 ^ 31 by omega)]
      refine ⟨vp_in_nI (by omega) (by omega), nm_e (nm_r (nI_1 i) (ih (i + 1) _ (by omega) (fun p hp => ?_)))⟩
      by_cases z : p = i
      · rw [z, pk_us]
      · rw [pk_un z]; exact hq p (by omega)
  exact ⟨_, key 34 0 aw (by omega) (fun p hp => by omega)⟩
theorem xl_pkd {post : Int32 → Prop} {k : Int32} (H : post (nI (md_pk k))) : wpX_portsOfKind post k := by
  unfold wpX_portsOfKind wpX_isPair
  unfold md_pk at H
  by_cases c0 : k = 0
  · rw [if_pos c0] at H
    exact br_t c0 (br_f (by decide) H)
  · rw [if_neg c0] at H
    refine br_f c0 ?_
    by_cases c1 : k = 1
    · rw [if_pos c1] at H
      exact br_t c1 (br_f (by decide) H)
    · rw [if_neg c1] at H
      refine br_f c1 (br_t rfl ?_)
      by_cases c2 : k = 2
      · rw [if_pos c2] at H
        exact br_t c2 H
      · rw [if_neg c2] at H
        exact br_f c2 H
theorem xl_ie {post : Int32 → Prop} {p : Nat} (hp : p < 2 ^ 31) (H : post (if 30 ≤ p ∧ p ≤ 33 then 1 else 0)) : wpX_isEnd post (nI p) := by
  unfold wpX_isEnd
  by_cases c : p < 30
  · rw [if_neg (by omega)] at H
    exact br_t (nI_lt (b := 30) c (by omega)) H
  · refine br_f (nI_nlt (b := 30) (by omega) hp) ?_
    by_cases d : p < 34
    · rw [if_pos (by omega)] at H
      exact br_f (nI_ge (b := 34) d (by omega)) H
    · rw [if_neg (by omega)] at H
      exact br_t (nI_le (a := 34) (by omega) hp) H
def ir_V (c : Nat) (ak : Nat → Int32) (x : Int32) : Prop := ∃ p, x = nI p ∧ ir_D c ak p
theorem xl_ip {post : Int32 → Prop} {c : Nat} {x : Int32} (hc : c ≤ 10) (h1 : ∀ p, x = nI p → ir_D c ak p → post 1) (h0 : ¬ ir_V c ak x → post 0) : wpX_isPort post (nI c, fe, fs, fl, fr, ak, aw, xk, xw, ir, re) x := by
  unfold wpX_isPort
  dsimp only
  by_cases z : x < 0
  · have nv : ¬ ir_V c ak x := by
      rintro ⟨p, rfl, d⟩
      exact nI_pos (by have := ir_D34 hc d; omega) z
    unfold wpX_isEnd
    exact br_t (Int32.lt_trans z (by decide)) (br_t rfl (br_t z (h0 nv)))
  · obtain ⟨p, hp, rfl⟩ := nI_of z
    have nv : ¬ ir_D c ak p → ¬ ir_V c ak (nI p) := by
      rintro nd ⟨q, e, d⟩
      have l := ir_D34 hc d
      rw [(nI_eq hp (by omega)).mp e] at nd
      exact nd d
    refine xl_ie hp ?_
    by_cases e : 30 ≤ p ∧ p ≤ 33
    · rw [if_pos e]
      exact br_f (by decide) (h1 p rfl (Or.inl e))
    · rw [if_neg e, xl_3, xl_dv hp, show nI p - nI (p / 3) * 3 = nI (p % 3) from (xl_dv hp) ▸ xl_rm hp]
      refine br_t rfl (br_f (nI_pos hp) ?_)
      by_cases l : p < 3 * c
      · refine br_t (nI_lt l (by omega)) ⟨by decide, by decide, vp_in_nI (by omega) (by omega), ?_⟩
        rw [nI_clamp (show p / 3 < 2 ^ 31 by omega)]
        refine xl_pkd ?_
        have p3 := md_pk_3 (ak (p / 3))
        by_cases q : md_pk (ak (p / 3)) ≤ p % 3
        · refine br_t (nI_le q (by omega)) (h0 (nv ?_))
          unfold ir_D
          omega
        · exact br_f (nI_ge (by omega) (by omega)) (h1 p rfl (Or.inr ⟨by omega, by omega⟩))
      · refine br_f (nI_nlt (by omega) hp) (h0 (nv ?_))
        unfold ir_D
        omega
theorem yl_ip {post : Int32 → Prop} {c : Nat} {x : Int32} (hc : c ≤ 10) (hk : ∀ i, i < c → fz_k3 (bk i)) (h1 : ∀ p, x = nI p → ir_D c bk p → post 1) (h0 : ¬ ir_V c bk x → post 0) : wpY_isPort post (nI c, gw, ge, gm, gl, gs, bk, bf, bs, rk, rf, rs, mt) x := by
  unfold wpY_isPort
  dsimp only
  by_cases z : x < 0
  · have nv : ¬ ir_V c bk x := by
      rintro ⟨p, rfl, d⟩
      exact nI_pos (by have := ir_D34 hc d; omega) z
    exact br_t z (h0 nv)
  · obtain ⟨p, hp, rfl⟩ := nI_of z
    have nv : ¬ ir_D c bk p → ¬ ir_V c bk (nI p) := by
      rintro nd ⟨q, e, d⟩
      have l := ir_D34 hc d
      rw [(nI_eq hp (by omega)).mp e] at nd
      exact nd d
    refine br_f z ?_
    by_cases l : p ≤ 33
    · refine br_t (nI_le (b := 33) l (by omega)) ?_
      by_cases e : 29 < p
      · exact br_t (nI_lt (a := 29) e hp) (h1 p rfl (Or.inl (by omega)))
      · rw [xl_dv hp, show nI p - nI (p / 3) * 3 = nI (p % 3) from (xl_dv hp) ▸ xl_rm hp, nI_clamp (show p / 3 < 2 ^ 31 by omega)]
        refine br_f (nI_nlt (a := 29) (by omega) (by omega)) ⟨by decide, ?_⟩
        by_cases q : c ≤ p / 3
        · refine br_t (nI_le q (by omega)) (h0 (nv ?_))
          unfold ir_D
          omega
        · have k3 := hk (p / 3) (by omega)
          refine br_f (nI_ge (by omega) (by omega)) ⟨by decide, ?_⟩
          by_cases r : p % 3 = 0
          · rw [r]
            refine br_t nI_0 (h1 p rfl (Or.inr ⟨by omega, ?_⟩))
            rw [r]
            rcases k3 with y | y | y <;> rw [y] <;> decide
          · refine br_f (nI_ne0 (by omega) (by omega)) ⟨by decide, vp_in_nI (by omega) (by omega), ?_⟩
            by_cases y : bk (p / 3) = 2
            · refine br_t (by rw [y]; decide) (h0 (nv ?_))
              unfold ir_D
              rw [y]
              have : md_pk 2 = 1 := by decide
              omega
            · have ym : md_pk (bk (p / 3)) = 3 := by
                rcases k3 with w | w | w
                · rw [w]; decide
                · rw [w]; decide
                · exact absurd w y
              refine br_f ?_ (h1 p rfl (Or.inr ⟨by omega, by rw [ym]; omega⟩))
              rcases k3 with w | w | w
              · rw [w]; decide
              · rw [w]; decide
              · exact absurd w y
    · refine br_f (nI_ge (a := 33) (by omega) hp) (h0 (nv ?_))
      unfold ir_D
      omega
theorem yl_in {post : Int32 → Prop} {p : Nat} (hp : p < 34) (H : post (nI (ir_in p))) : wpY_inside post (gc, gw, ge, gm, gl, gs, bk, bf, bs, rk, rf, rs, mt) (nI p) := by
  unfold wpY_inside
  dsimp only
  unfold ir_in at H
  by_cases z : p < 30
  · rw [if_pos z] at H
    rw [show nI p + 4 = nI (p + 4) from nI_add p 4]
    exact br_t (nI_le (b := 29) (by omega) (by omega)) H
  · rw [if_neg z, if_pos hp] at H
    rw [show nI p - 30 = nI (p - 30) from pk_sub (b := 30) (by omega)]
    exact br_f (nI_ge (a := 29) (by omega) (by omega)) H
theorem yl_ou {post : Int32 → Prop} {q : Nat} (hq : q < 34) (H : post (nI (ir_ou q))) : wpY_outside post (gc, gw, ge, gm, gl, gs, bk, bf, bs, rk, rf, rs, mt) (nI q) := by
  unfold wpY_outside
  dsimp only
  unfold ir_ou at H
  by_cases z : q < 4
  · rw [if_pos z] at H
    rw [show nI q + 30 = nI (q + 30) from nI_add q 30]
    exact br_f (nI_ge (b := 4) z (by omega)) H
  · rw [if_neg z, if_pos hq] at H
    rw [show nI q - 4 = nI (q - 4) from pk_sub (b := 4) (by omega)]
    exact br_t (nI_le (a := 4) (by omega) (by omega)) H
theorem yl_wo0 {post : Int32 → Prop} {m q : Nat} {f s h : Nat → Nat} (hm : m ≤ 20) (hq : q < 2000) (A : yl_A m bf bs f s) (G : yl_G m f s h) (h0 : h q = q → post (-1)) (h1 : ∀ i, i < m → (f i = q ∨ (f i ≠ q ∧ s i = q)) → post (nI i)) :
    wpY_wireOf post (gc, nI m, ge, gm, gl, gs, bk, bf, bs, rk, rf, rs, mt) (nI q) := by
  have key : ∀ d i, i + d = m → (∀ j, j < i → f j ≠ q ∧ s j ≠ q) → wY_wireOf_2 post (nI q) gc (nI m) ge gm gl gs bk bf bs rk rf rs mt (d + 1) (nI i) := by
    intro d
    induction d with
    | zero =>
      intro i hi hj
      refine br_t (nI_le (by omega) (by omega)) (h0 ?_)
      by_cases z : h q = q
      · exact z
      · obtain ⟨j, hjm, e⟩ := G.2.1 q z
        have := hj j (by omega)
        exact absurd e (fun e => e.elim this.1 this.2)
    | succ d ih =>
      intro i hi hj
      have a := A i (by omega)
      have b := G.1 i (by omega)
      refine br_f (nI_ge (by omega) (by omega)) ⟨vp_in_nI (by omega) (by omega), ?_⟩
      rw [nI_clamp (show i < 2 ^ 31 by omega), a.1, a.2]
      by_cases c : f i = q
      · exact br_t (by rw [c]) (h1 i (by omega) (Or.inl c))
      · refine br_f (fun z => c ((nI_eq (by omega) (by omega)).mp z)) ⟨vp_in_nI (by omega) (by omega), ?_⟩
        by_cases d : s i = q
        · exact br_t (by rw [d]) (h1 i (by omega) (Or.inr ⟨c, d⟩))
        · refine br_f (fun z => d ((nI_eq (by omega) (by omega)).mp z)) (nm_r (nI_1 i) (ih (i + 1) (by omega) (fun j hj' => ?_)))
          by_cases e : j = i
          · rw [e]; exact ⟨c, d⟩
          · exact hj j (by omega)
  exact ⟨_, key m 0 (by omega) (fun j hj => by omega)⟩
end
theorem ir_ieq {p x : Nat} : ir_ou x = p ↔ x = ir_in p := by
  constructor
  · intro e; rw [← e, ir_io]
  · intro e; rw [e, ir_oi]
theorem ir_iin {p q : Nat} (h : ir_in p = ir_in q) : p = q := by rw [← ir_oi p, h, ir_oi]
theorem ir_hJ (h : Nat → Nat) (p q : Nat) : ir_hY (md_J h p q) = md_J (ir_hY h) (ir_in p) (ir_in q) := by
  funext x
  unfold ir_hY md_J
  simp only [ir_ieq]
  split
  · rfl
  · split <;> rfl
theorem ir_hC (h : Nat → Nat) (p q : Nat) : ir_hY (yl_C h p q) = yl_C (ir_hY h) (ir_in p) (ir_in q) := by
  funext x
  unfold ir_hY yl_C
  simp only [ir_ieq]
  split
  · rfl
  · split <;> rfl
theorem ir_HJ {c : Nat} {k : Nat → Int32} {h : Nat → Nat} (H : ir_H c k h) {p q : Nat} (dp : ir_D c k p) (dq : ir_D c k q) (hp : h p = p) (hq : h q = q) (hpq : p ≠ q) : ir_H c k (md_J h p q) := by
  refine ⟨fun x => ?_, fun x dx => ?_, fun x dx => ?_⟩
  · have hx := H.1 x
    unfold md_J
    grind
  · unfold md_J
    split
    · exact dq
    · split
      · exact dp
      · exact H.2.1 x dx
  · unfold md_J
    have n1 : ¬ x = p := fun z => dx (z ▸ dp)
    have n2 : ¬ x = q := fun z => dx (z ▸ dq)
    rw [if_neg n1, if_neg n2]
    exact H.2.2 x dx
theorem ir_HC {c : Nat} {k : Nat → Int32} {h : Nat → Nat} (H : ir_H c k h) {p : Nat} : ir_H c k (yl_C h p (h p)) := by
  refine ⟨fun x => ?_, fun x dx => ?_, fun x dx => ?_⟩
  · have hx := H.1 x
    have hp := H.1 p
    unfold yl_C
    grind
  · unfold yl_C
    split
    · rename_i e; rw [← e]; exact dx
    · split
      · rename_i e; rw [← e]; exact dx
      · exact H.2.1 x dx
  · unfold yl_C
    split
    · rename_i e; exact e.symm
    · split
      · rename_i e; exact e.symm
      · exact H.2.2 x dx
theorem i_vc0 : wpX_init (fun u => wpY_init (fun v => i_Rel 0 u v)) := by
  unfold wpX_init
  refine xl_ta (fun aw' hw => ?_)
  exact ⟨0, 0, fun p => p, rfl, rfl, rfl, rfl, ir_0 hw⟩
theorem i_vc_cell {k : Nat} {u : SX} {v : SY} (I : i_Rel k u v) (hk : k + 3 ≤ 1536) (v1 : Int32) : wpX_cell (fun r u' => wpY_cell (fun r' v' => r' = r ∧ i_Rel (k + 3) u' v') v v1) u v1 := by
  obtain ⟨fc, fe, fs, fl, fr, ak, aw, xk, xw, ir, re⟩ := u
  obtain ⟨gc, gw, ge, gm, gl, gs, bk, bf, bs, rk, rf, rs, mt⟩ := v
  obtain ⟨c, m, h, e1, e2, e3, e4, R⟩ := I
  dsimp only at e1 e2 e3 e4 R
  have e5 := e4.symm
  clear e4
  subst e1 e2 e3 e5
  have R' := R
  obtain ⟨c10, k3, H, W, Y⟩ := R'
  unfold wpX_cell wpY_cell wpX_isKind
  dsimp only
  by_cases z : v1 < 0
  · exact br_t z (br_t rfl (br_t z ⟨rfl, ir_mk R⟩))
  · obtain ⟨j, hj, rfl⟩ := nI_of z
    refine br_f z ?_
    by_cases l : j < 3
    · refine br_f (nI_ge (b := 3) l (by omega)) (br_f (by decide) ?_)
      by_cases f : c = 10
      · subst f
        exact br_f (nI_nlt (b := 10) (by omega) (by omega)) (br_f z (br_t (nI_le (b := 2) (by omega) (by omega)) (br_t rfl ⟨rfl, ir_mk R⟩)))
      · rw [nI_clamp (show c < 2 ^ 31 by omega)]
        refine br_t (nI_lt (b := 10) (by omega) (by omega)) ⟨vp_in_nI (by omega) (by omega), nm_e (nm_r (nI_1 c) ?_)⟩
        refine br_f z (br_t (nI_le (b := 2) (by omega) (by omega)) (br_f (fun e => f ((nI_eq (b := 10) (by omega) (by omega)).mp e)) ⟨vp_in_nI (by omega) (by omega), nm_e (nm_r (nI_1 c) ⟨nI_pred c, ir_mk (h := h) ?_⟩)⟩))
        have j3 : fz_k3 (nI j) := by
          have : j = 0 ∨ j = 1 ∨ j = 2 := by omega
          rcases this with e | e | e
          · left; rw [e]; rfl
          · right; left; rw [e]; rfl
          · right; right; rw [e]; rfl
        have sub : ∀ p, ir_D c ak p → ir_D (c + 1) (upd ak c (nI j)) p := by
          intro p d
          rcases d with d | ⟨d1, d2⟩
          · exact Or.inl d
          · refine Or.inr ⟨by omega, ?_⟩
            rw [pk_un (by omega)]
            exact d2
        refine ⟨by omega, fun i hi => ?_, ⟨H.1, fun p dp => ?_, fun p dp => H.2.2 p (fun d => dp (sub p d))⟩, W, Y⟩
        · by_cases e : i = c
          · rw [e, pk_us]; exact j3
          · rw [pk_un e]; exact k3 i (by omega)
        · by_cases d : ir_D c ak p
          · exact sub _ (H.2.1 p d)
          · rw [H.2.2 p d]; exact dp
    · exact br_t (nI_le (a := 3) (by omega) hj) (br_t rfl (br_f z (br_f (nI_ge (a := 2) (by omega) hj) ⟨rfl, ir_mk R⟩)))
theorem i_vc_cells {k : Nat} {u : SX} {v : SY} (I : i_Rel k u v) (hk : k + 3 ≤ 1536) : wpX_cells (fun r => wpY_cells (fun r' => r' = r ∧ i_Rel (k + 3) u v) v) u := by
  obtain ⟨fc, fe, fs, fl, fr, ak, aw, xk, xw, ir, re⟩ := u
  obtain ⟨gc, gw, ge, gm, gl, gs, bk, bf, bs, rk, rf, rs, mt⟩ := v
  obtain ⟨c, m, h, e1, e2, e3, e4, R⟩ := I
  dsimp only at e1 e2 e3 e4 R
  have e5 := e4.symm
  clear e4
  subst e1 e2 e3 e5
  exact ⟨rfl, ir_mk R⟩
theorem i_vc_clear {k : Nat} {u : SX} {v : SY} (I : i_Rel k u v) (hk : k + 3 ≤ 1536) : wpX_clear (fun u' => wpY_clear (fun v' => i_Rel (k + 3) u' v') v) u := by
  obtain ⟨fc, fe, fs, fl, fr, ak, aw, xk, xw, ir, re⟩ := u
  obtain ⟨gc, gw, ge, gm, gl, gs, bk, bf, bs, rk, rf, rs, mt⟩ := v
  obtain ⟨c, m, h, e1, e2, e3, e4, R⟩ := I
  dsimp only at e1 e2 e3 e4 R
  have e5 := e4.symm
  clear e4
  subst e1 e2 e3 e5
  unfold wpX_clear wpY_clear
  dsimp only
  refine xl_ta (fun aw' hw => ?_)
  exact ⟨0, 0, fun p => p, rfl, rfl, rfl, rfl, ir_0 hw⟩
theorem i_vc_join {k : Nat} {u : SX} {v : SY} (I : i_Rel k u v) (hk : k + 3 ≤ 1536) (v1 : Int32) (v2 : Int32) : wpX_join (fun r u' => wpY_join (fun r' v' => r' = r ∧ i_Rel (k + 3) u' v') v v1 v2) u v1 v2 := by
  obtain ⟨fc, fe, fs, fl, fr, ak, aw, xk, xw, ir, re⟩ := u
  obtain ⟨gc, gw, ge, gm, gl, gs, bk, bf, bs, rk, rf, rs, mt⟩ := v
  obtain ⟨c, m, h, e1, e2, e3, e4, R⟩ := I
  dsimp only at e1 e2 e3 e4 R
  have e5 := e4.symm
  clear e4
  subst e1 e2 e3 e5
  have R' := R
  obtain ⟨c10, k3, H, W, Y⟩ := R'
  have m17 := ir_m R
  unfold wpX_join wpY_join
  dsimp only
  refine xl_ip c10 (fun p ep dp => ?_) (fun nv => ?_)
  · subst ep
    have p34 := ir_D34 c10 dp
    refine br_f (by decide) ?_
    refine xl_ip c10 (fun q eq dq => ?_) (fun nv => ?_)
    · subst eq
      have q34 := ir_D34 c10 dq
      refine br_f (by decide) ?_
      -- the reference's two tests
      have Yok : ∀ (P : Int32 → Prop), P 1 → wpY_isPort P (nI c, nI m, ge, gm, gl, gs, ak, bf, bs, rk, rf, rs, mt) (nI p) := fun P h1 => yl_ip c10 k3 (fun _ _ _ => h1) (fun nv => absurd ⟨p, rfl, dp⟩ nv)
      have Yok2 : ∀ (P : Int32 → Prop), P 1 → wpY_isPort P (nI c, nI m, ge, gm, gl, gs, ak, bf, bs, rk, rf, rs, mt) (nI q) := fun P h1 => yl_ip c10 k3 (fun _ _ _ => h1) (fun nv => absurd ⟨q, rfl, dq⟩ nv)
      by_cases pq : p = q
      · subst pq
        exact br_t rfl (Yok _ (br_f (by decide) (Yok2 _ (br_f (by decide) (br_t rfl ⟨rfl, ir_mk R⟩)))))
      · have npq : ¬ nI p = nI q := fun e => pq ((nI_eq (by omega) (by omega)).mp e)
        rw [nI_clamp (show p < 2 ^ 31 by omega), nI_clamp (show q < 2 ^ 31 by omega), W p p34, W q q34]
        refine br_f npq ⟨vp_in_nI p34 (by omega), ?_⟩
        have ip34 : ir_in p < 34 := by unfold ir_in; split <;> omega
        have iq34 : ir_in q < 34 := by unfold ir_in; split <;> omega
        obtain ⟨f, s, A, G⟩ := Y
        have ep : ir_hY h (ir_in p) = ir_in (h p) := by unfold ir_hY; rw [ir_oi]
        have eq : ir_hY h (ir_in q) = ir_in (h q) := by unfold ir_hY; rw [ir_oi]
        -- the reference, up to its wires
        have pre : ∀ (Q : Int32 → SY → Prop), wpY_wireOf (fun r_60 => (((0 ≤ r_60 → (Q (-4) (nI c, nI m, ge, gm, gl, gs, ak, bf, bs, rk, rf, rs, mt))) ∧ (¬ 0 ≤ r_60 → (wpY_wireOf (fun r_75 => (((r_75 < 0 → (vp_in (nI m) 20 ∧ ∀ a_firsts_91 : Nat → Int32, a_firsts_91 = upd bf (nI m).toNatClampNeg (nI (ir_in p)) → (vp_in (nI m) 20 ∧ ∀ a_seconds_93 : Nat → Int32, a_seconds_93 = upd bs (nI m).toNatClampNeg (nI (ir_in q)) → (∀ f_wires_94 : Int32, f_wires_94 = nI m + 1 → (Q 0 (nI c, f_wires_94, ge, gm, gl, gs, ak, a_firsts_91, a_seconds_93, rk, rf, rs, mt)))))) ∧ (¬ r_75 < 0 → (Q (-4) (nI c, nI m, ge, gm, gl, gs, ak, bf, bs, rk, rf, rs, mt)))))) (nI c, nI m, ge, gm, gl, gs, ak, bf, bs, rk, rf, rs, mt) (nI (ir_in q))))))) (nI c, nI m, ge, gm, gl, gs, ak, bf, bs, rk, rf, rs, mt) (nI (ir_in p)) → wpY_join Q (nI c, nI m, ge, gm, gl, gs, ak, bf, bs, rk, rf, rs, mt) (nI p) (nI q) := by
          intro Q hQ
          unfold wpY_join
          dsimp only
          refine Yok _ (br_f (by decide) (Yok2 _ (br_f (by decide) (br_f npq ?_))))
          refine yl_in p34 ?_
          refine yl_in q34 ?_
          exact hQ
        have pre' := pre (fun r' v' => r' = 0 ∧ i_Rel (k + 3) (nI c, fe, fs, fl, fr, ak, upd (upd aw p (nI q)) q (nI p), xk, xw, ir, re) v')
        have preN := pre (fun r' v' => r' = -4 ∧ i_Rel (k + 3) (nI c, fe, fs, fl, fr, ak, aw, xk, xw, ir, re) v')
        by_cases op : h p = p
        · rw [op, md_fo_s]
          refine br_t rfl ⟨vp_in_nI q34 (by omega), ?_⟩
          by_cases oq : h q = q
          · rw [oq, md_fo_s]
            refine br_t rfl ⟨vp_in_nI p34 (by omega), nm_e ⟨vp_in_nI q34 (by omega), nm_e ?_⟩⟩
            refine pre' ?_
            refine yl_wo0 (by omega) (by omega) A G (fun _ => ?_) (fun i hi z => ?_)
            · refine br_f (by decide) ?_
              refine yl_wo0 (by omega) (by omega) A G (fun _ => ?_) (fun i hi z => ?_)
              · rw [nI_clamp (show m < 2 ^ 31 by omega)]
                refine br_t (by decide) ⟨vp_in_nI (by omega) (by omega), nm_e ⟨vp_in_nI (by omega) (by omega), nm_e (nm_r (nI_1 m) ⟨rfl, ir_mk (h := md_J h p q) ⟨c10, k3, ir_HJ H dp dq op oq pq, fun x hx => ?_, ?_⟩⟩)⟩⟩
                · have w := W x hx
                  unfold upd md_J
                  unfold md_fo at w ⊢
                  grind
                · rw [ir_hJ]
                  exact ⟨_, _, yl_Aa A, yl_Ga G (by rw [ep, op]) (by rw [eq, oq]) (fun z => pq (ir_iin z)) (by omega) (by omega)⟩
              · exfalso
                have g := G.1 i hi
                rcases z with z | ⟨_, z⟩
                · rw [z, eq, oq] at g; exact g.2.2.1 g.2.2.2.1
                · rw [z, eq, oq] at g; exact g.2.2.1 g.2.2.2.2.symm
            · exfalso
              have g := G.1 i hi
              rcases z with z | ⟨_, z⟩
              · rw [z, ep, op] at g; exact g.2.2.1 g.2.2.2.1
              · rw [z, ep, op] at g; exact g.2.2.1 g.2.2.2.2.symm
          · have hq34 := ir_D34 c10 (H.2.1 q dq)
            rw [md_fo_n oq]
            refine br_f (xl_nm1 (by omega)) ?_
            refine preN ?_
            refine yl_wo0 (by omega) (by omega) A G (fun _ => ?_) (fun i hi z => ?_)
            · refine br_f (by decide) ?_
              refine yl_wo0 (by omega) (by omega) A G (fun z => ?_) (fun i hi z => ?_)
              · rw [eq] at z
                exact absurd (ir_iin z) oq
              · exact br_f (nI_pos (by omega)) ⟨rfl, ir_mk R⟩
            · exact br_t (nI_pos' (by omega)) ⟨rfl, ir_mk R⟩
        · have hp34 := ir_D34 c10 (H.2.1 p dp)
          rw [md_fo_n op]
          refine br_f (xl_nm1 (by omega)) ?_
          refine preN ?_
          refine yl_wo0 (by omega) (by omega) A G (fun z => ?_) (fun i hi z => ?_)
          · rw [ep] at z
            exact absurd (ir_iin z) op
          · exact br_t (nI_pos' (by omega)) ⟨rfl, ir_mk R⟩
    · refine br_t rfl ?_
      refine yl_ip c10 k3 (fun _ _ _ => br_f (by decide) ?_) (fun nv' => absurd ⟨p, rfl, dp⟩ nv')
      exact yl_ip c10 k3 (fun q eq dq => absurd ⟨q, eq, dq⟩ nv) (fun _ => br_t rfl ⟨rfl, ir_mk R⟩)
  · refine br_t rfl ?_
    exact yl_ip c10 k3 (fun q eq dq => absurd ⟨q, eq, dq⟩ nv) (fun _ => br_t rfl ⟨rfl, ir_mk R⟩)
theorem i_vc_cut {k : Nat} {u : SX} {v : SY} (I : i_Rel k u v) (hk : k + 3 ≤ 1536) (v1 : Int32) : wpX_cut (fun r u' => wpY_cut (fun r' v' => r' = r ∧ i_Rel (k + 3) u' v') v v1) u v1 := by
  obtain ⟨fc, fe, fs, fl, fr, ak, aw, xk, xw, ir, re⟩ := u
  obtain ⟨gc, gw, ge, gm, gl, gs, bk, bf, bs, rk, rf, rs, mt⟩ := v
  obtain ⟨c, m, h, e1, e2, e3, e4, R⟩ := I
  dsimp only at e1 e2 e3 e4 R
  have e5 := e4.symm
  clear e4
  subst e1 e2 e3 e5
  have R' := R
  obtain ⟨c10, k3, H, W, Y⟩ := R'
  have m17 := ir_m R
  unfold wpX_cut wpY_cut
  dsimp only
  refine xl_ip c10 (fun p ep dp => ?_) (fun nv => ?_)
  · subst ep
    have p34 := ir_D34 c10 dp
    have ip34 : ir_in p < 34 := by unfold ir_in; split <;> omega
    have d2 := H.2.1 p dp
    have hp34 := ir_D34 c10 d2
    have ihp34 : ir_in (h p) < 34 := by unfold ir_in; split <;> omega
    obtain ⟨f, s, A, G⟩ := Y
    have ep : ir_hY h (ir_in p) = ir_in (h p) := by unfold ir_hY; rw [ir_oi]
    rw [nI_clamp (show p < 2 ^ 31 by omega), W p p34]
    refine br_f (by decide) ⟨vp_in_nI p34 (by omega), nm_e ?_⟩
    have Yok : ∀ (P : Int32 → Prop), P 1 → wpY_isPort P (nI c, nI m, ge, gm, gl, gs, ak, bf, bs, rk, rf, rs, mt) (nI p) := fun P h1 => yl_ip c10 k3 (fun _ _ _ => h1) (fun nv => absurd ⟨p, rfl, dp⟩ nv)
    by_cases op : h p = p
    · rw [op, md_fo_s]
      refine br_t rfl (Yok _ (br_f (by decide) ?_))
      refine yl_in p34 ?_
      refine yl_wo0 (by omega) (by omega) A G (fun _ => ?_) (fun i hi z => ?_)
      · exact br_f (by decide) ⟨rfl, ir_mk R⟩
      · exfalso
        have g := G.1 i hi
        rcases z with z | ⟨_, z⟩
        · rw [z, ep, op] at g; exact g.2.2.1 g.2.2.2.1
        · rw [z, ep, op] at g; exact g.2.2.1 g.2.2.2.2.symm
    · rw [md_fo_n op, nI_clamp (show h p < 2 ^ 31 by omega)]
      refine br_f (xl_nm1 (by omega)) ⟨vp_in_nI p34 (by omega), nm_e ⟨vp_in_nI hp34 (by omega), nm_e (Yok _ (br_f (by decide) ?_))⟩⟩
      refine yl_in p34 ?_
      have awn : ∀ x, x < 34 → upd (upd aw p (-1)) (h p) (-1) x = md_fo x (yl_C h p (h p) x) := by
        intro x hx
        have w := W x hx
        unfold upd yl_C
        unfold md_fo at w ⊢
        grind
      have nii : ir_in p ≠ ir_in (h p) := fun z => op (ir_iin z).symm
      have e1 : nI m - 1 = nI (m - 1) ∨ m = 0 := by
        by_cases m0 : m = 0
        · right; exact m0
        · left
          have := nI_pred (m - 1)
          rw [show m - 1 + 1 = m by omega] at this
          exact this
      refine yl_wo0 (by omega) (by omega) A G (fun z => ?_) (fun i hi z => ?_)
      · rw [ep] at z
        exact absurd (ir_iin z) op
      · have a := A i hi
        have g := G.1 i hi
        have e1 : nI m - 1 = nI (m - 1) := e1.elim id (fun z => by omega)
        have Wt : yl_W (m - 1) (upd bf i (bf (m - 1))) (upd bs i (bs (m - 1))) (yl_C (ir_hY h) (f i) (s i)) := ⟨_, _, yl_At A hi, yl_Gt G hi⟩
        refine br_t (nI_pos' (by omega)) ⟨vp_in_nI (by omega) (by omega), ?_⟩
        rw [nI_clamp (show i < 2 ^ 31 by omega), a.1, a.2]
        rcases z with z | ⟨z1, z2⟩
        · have es : s i = ir_in (h p) := by rw [← ep, ← z]; exact g.2.2.2.1.symm
          rw [z, es, ← ir_hC] at Wt
          refine br_t (by rw [z]) ⟨vp_in_nI (by omega) (by omega), ?_⟩
          unfold wY_cut_54
          rw [e1]
          refine nm_e ?_
          rw [nI_clamp (show i < 2 ^ 31 by omega), nI_clamp (show m - 1 < 2 ^ 31 by omega)]
          refine ⟨vp_in_nI (by omega) (by omega), vp_in_nI (by omega) (by omega), nm_e ⟨vp_in_nI (by omega) (by omega), vp_in_nI (by omega) (by omega), nm_e ?_⟩⟩
          rw [es]
          refine yl_ou ihp34 ?_
          rw [ir_oi]
          exact ⟨rfl, ir_mk ⟨c10, k3, ir_HC H, awn, Wt⟩⟩
        · have ef : f i = ir_in (h p) := by rw [← ep, ← z2]; exact g.2.2.2.2.symm
          rw [z2, ef, yl_Ce nii, ← ir_hC] at Wt
          refine br_f (fun e => z1 ((nI_eq (by omega) (by omega)).mp e)) ⟨vp_in_nI (by omega) (by omega), ?_⟩
          unfold wY_cut_54
          rw [e1]
          refine nm_e ?_
          rw [nI_clamp (show i < 2 ^ 31 by omega), nI_clamp (show m - 1 < 2 ^ 31 by omega)]
          refine ⟨vp_in_nI (by omega) (by omega), vp_in_nI (by omega) (by omega), nm_e ⟨vp_in_nI (by omega) (by omega), vp_in_nI (by omega) (by omega), nm_e ?_⟩⟩
          rw [ef]
          refine yl_ou ihp34 ?_
          rw [ir_oi]
          exact ⟨rfl, ir_mk ⟨c10, k3, ir_HC H, awn, Wt⟩⟩
  · refine br_t rfl ?_
    exact yl_ip c10 k3 (fun q eq dq => absurd ⟨q, eq, dq⟩ nv) (fun _ => br_t rfl ⟨rfl, ir_mk R⟩)
