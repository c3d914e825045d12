/-! facing; both runs from related objects; steps, loops, left -/
section
variable {fc fe fs fl fr : Int32} {ak aw xk xw ir re : Nat → Int32} {gc gw ge gm gl gs : Int32} {bk bf bs rk rf rs mt : Nat → Int32}
theorem cn_t {p : Nat → Bool} {i : Nat} (h : p i = true) : cn_c p (i + 1) = cn_c p i + 1 := by
  show cn_c p i + _ = _
  rw [if_pos h]
theorem cn_f {p : Nat → Bool} {i : Nat} (h : p i = false) : cn_c p (i + 1) = cn_c p i := by
  show cn_c p i + _ = _
  rw [if_neg (by rw [h]; decide)]; rfl
theorem cn_le (p : Nat → Bool) : ∀ n, cn_c p n ≤ n
  | 0 => Nat.le_refl 0
  | n + 1 => by
    show cn_c p n + _ ≤ _
    have := cn_le p n
    split <;> omega
def fa_X (h : Nat → Nat) (i : Nat) : Bool := decide (3 * i < h (3 * i) ∧ h (3 * i) < 30 ∧ h (3 * i) % 3 = 0)
def fa_Y (f s : Nat → Nat) (i : Nat) : Bool := decide (4 ≤ f i ∧ (f i - 4) % 3 = 0 ∧ 4 ≤ s i ∧ (s i - 4) % 3 = 0)
theorem fa_x {post : Int32 → Prop} {c : Nat} {h : Nat → Nat} (hc : c ≤ 10) (hb : ∀ p, p < 36 → h p < 36) (W : ∀ p, p < 34 → aw p = md_fo p (h p)) (H : post (nI (cn_c (fa_X h) c))) : wpX_facing post (nI c, fe, fs, fl, fr, ak, aw, xk, xw, ir, re) := by
  have key : ∀ d i, i + d = c → wX_facing_4 post (nI c) fe fs fl fr ak aw xk xw ir re (d + 1) (nI (cn_c (fa_X h) i)) (nI i) := by
    intro d
    induction d with
    | zero =>
      intro i hi
      have : i = c := by omega
      subst this
      exact br_t (nI_le (by omega) (by omega)) H
    | succ d ih =>
      intro i hi
      have nx := ih (i + 1) (by omega)
      have hh := hb (3 * i) (by omega)
      refine br_f (nI_ge (by omega) (by omega)) ?_
      rw [xl_3, nI_clamp (show 3 * i < 2 ^ 31 by omega), W _ (by omega)]
      refine ⟨vp_in_nI (by omega) (by omega), nm_e ?_⟩
      by_cases op : h (3 * i) = 3 * i
      · have f : fa_X h i = false := decide_eq_false (by omega)
        rw [cn_f f] at nx
        rw [op, md_fo_s]
        exact br_t (Int32.le_trans (by decide) (nI_pos' (by omega))) (nm_r (nI_1 i) nx)
      · rw [md_fo_n op]
        by_cases c1 : h (3 * i) ≤ 3 * i
        · have f : fa_X h i = false := decide_eq_false (by omega)
          rw [cn_f f] at nx
          exact br_t (nI_le c1 (by omega)) (nm_r (nI_1 i) nx)
        · refine br_f (nI_ge (by omega) (by omega)) ?_
          by_cases c2 : 30 ≤ h (3 * i)
          · have f : fa_X h i = false := decide_eq_false (by omega)
            rw [cn_f f] at nx
            exact br_t (nI_le (a := 30) c2 (by omega)) (nm_r (nI_1 i) nx)
          · rw [xl_rm (by omega)]
            refine br_f (nI_ge (b := 30) (by omega) (by omega)) ⟨by decide, ?_⟩
            by_cases c3 : h (3 * i) % 3 = 0
            · have f : fa_X h i = true := decide_eq_true (by omega)
              rw [cn_t f] at nx
              rw [c3]
              exact br_t nI_0 (nm_r (nI_1 _) (nm_r (nI_1 i) nx))
            · have f : fa_X h i = false := decide_eq_false (by omega)
              rw [cn_f f] at nx
              exact br_f (nI_ne0 (by omega) (by omega)) (nm_r (nI_1 i) nx)
  exact ⟨_, key c 0 (by omega)⟩
theorem fa_y {post : Int32 → Prop} {m : Nat} {f s h : Nat → Nat} (hm : m ≤ 20) (A : yl_A m bf bs f s) (G : yl_G m f s h) (H : post (nI (cn_c (fa_Y f s) m))) : wpY_facing post (gc, nI m, ge, gm, gl, gs, bk, bf, bs, rk, rf, rs, mt) := by
  have key : ∀ d i, i + d = m → wY_facing_4 post gc (nI m) ge gm gl gs bk bf bs rk rf rs mt (d + 1) (nI (cn_c (fa_Y f s) i)) (nI i) := by
    intro d
    induction d with
    | zero =>
      intro i hi
      have : i = m := by omega
      subst this
      exact br_t (nI_le (by omega) (by omega)) H
    | succ d ih =>
      intro i hi
      have nx := ih (i + 1) (by omega)
      have a := A i (by omega)
      have b := G.1 i (by omega)
      refine br_f (nI_ge (by omega) (by omega)) ⟨vp_in_nI (by omega) (by omega), ?_⟩
      rw [nI_clamp (show i < 2 ^ 31 by omega), a.1, a.2]
      refine yl_hd b.1 (fun z => ?_) (fun z1 z2 => ?_)
      · have f : fa_Y f s i = false := decide_eq_false (by omega)
        rw [cn_f f] at nx
        exact br_t rfl (nm_r (nI_1 i) nx)
      · refine br_f (by decide) ⟨vp_in_nI (by omega) (by omega), ?_⟩
        refine yl_hd b.2.1 (fun z => ?_) (fun z3 z4 => ?_)
        · have f : fa_Y f s i = false := decide_eq_false (by omega)
          rw [cn_f f] at nx
          exact br_t rfl (nm_r (nI_1 i) nx)
        · have f : fa_Y f s i = true := decide_eq_true (by omega)
          rw [cn_t f] at nx
          exact br_f (by decide) (nm_r (nI_1 _) (nm_r (nI_1 i) nx))
  exact ⟨_, key m 0 (by omega)⟩
theorem fa_eq {c m : Nat} {h f s : Nat → Nat} {k : Nat → Int32} (hc : c ≤ 10) (H : ir_H c k h) (G : yl_G m f s (ir_hY h)) : cn_c (fa_Y f s) m = cn_c (fa_X h) c := by
  have ih : ∀ p, ir_hY h (ir_in p) = ir_in (h p) := by intro p; unfold ir_hY; rw [ir_oi]
  have i3 : ∀ a, a < 10 → ir_in (3 * a) = 3 * a + 4 := by intro a ha; unfold ir_in; rw [if_pos (by omega)]
  refine Nat.le_antisymm ?_ ?_
  · refine cn_rel (R := fun i a => f i = 3 * a + 4 ∨ s i = 3 * a + 4) m _ (fun i hi pi => ?_) (fun i i' a hi hi' _ _ r1 r2 => ?_)
    · have p := of_decide_eq_true pi
      have g := G.1 i hi
      -- the cells of the two heads
      have lt : ∀ x y, ir_hY h x = y → x ≠ y → 4 ≤ x → (x - 4) % 3 = 0 → (x - 4) / 3 < c ∧ x < 34 := by
        intro x y e ne x4 x3
        have d : ir_D c k (ir_ou x) := by
          by_cases d : ir_D c k (ir_ou x)
          · exact d
          · exfalso
            apply ne
            rw [← e]
            unfold ir_hY
            rw [H.2.2 _ d, ir_io]
        have l := ir_D34 hc d
        have x34 : x < 34 := by
          have e := ir_io x
          unfold ir_in at e
          split at e <;> omega
        unfold ir_D ir_ou at d
        rw [if_neg (by omega), if_pos x34] at d
        omega
      have l1 := lt (f i) (s i) g.2.2.2.1 g.2.2.1 p.1 p.2.1
      have l2 := lt (s i) (f i) g.2.2.2.2 (fun z => g.2.2.1 z.symm) p.2.2.1 p.2.2.2
      have o1 : ir_ou (f i) = f i - 4 := by unfold ir_ou; rw [if_neg (by omega), if_pos l1.2]
      have o2 : ir_ou (s i) = s i - 4 := by unfold ir_ou; rw [if_neg (by omega), if_pos l2.2]
      have e1 : h (f i - 4) = s i - 4 := by
        have := g.2.2.2.1
        unfold ir_hY at this
        rw [← o1, ← o2, ← this, ir_oi]
      have e2 : h (s i - 4) = f i - 4 := by
        have := g.2.2.2.2
        unfold ir_hY at this
        rw [← o1, ← o2, ← this, ir_oi]
      have q1 : 3 * ((f i - 4) / 3) = f i - 4 := by omega
      have q2 : 3 * ((s i - 4) / 3) = s i - 4 := by omega
      by_cases z : f i < s i
      · refine ⟨(f i - 4) / 3, l1.1, decide_eq_true ?_, Or.inl (by omega)⟩
        rw [q1, e1]
        omega
      · refine ⟨(s i - 4) / 3, l2.1, decide_eq_true ?_, Or.inr (by omega)⟩
        rw [q2, e2]
        have := g.2.2.1
        omega
    · rcases r1 with r1 | r1 <;> rcases r2 with r2 | r2
      · exact G.2.2.1 i i' hi hi' (r1.trans r2.symm)
      · exact absurd (r1.trans r2.symm) (G.2.2.2 i i' hi hi')
      · exact absurd (r2.trans r1.symm) (G.2.2.2 i' i hi' hi)
      · exact yl_ss G hi hi' (r1.trans r2.symm)
  · refine cn_rel (R := fun a i => i < m ∧ (f i = 3 * a + 4 ∨ s i = 3 * a + 4)) c _ (fun a ha pa => ?_) (fun a a' i ha ha' pa pa' r1 r2 => ?_)
    · have p := of_decide_eq_true pa
      have e := ih (3 * a)
      rw [i3 a (by omega)] at e
      have e2 : ir_in (h (3 * a)) = h (3 * a) + 4 := by unfold ir_in; rw [if_pos (by omega)]
      obtain ⟨i, hi, ei⟩ := G.2.1 (3 * a + 4) (by omega)
      have g := G.1 i hi
      refine ⟨i, hi, decide_eq_true ?_, hi, ei⟩
      rcases ei with ei | ei
      · have es : s i = h (3 * a) + 4 := by rw [← g.2.2.2.1, ei, e, e2]
        omega
      · have es : f i = h (3 * a) + 4 := by rw [← g.2.2.2.2, ei, e, e2]
        omega
    · have p := of_decide_eq_true pa
      have p' := of_decide_eq_true pa'
      obtain ⟨hi, r1⟩ := r1
      obtain ⟨_, r2⟩ := r2
      have g := G.1 i hi
      have e := ih (3 * a)
      have e' := ih (3 * a')
      rw [i3 a (by omega)] at e
      rw [i3 a' (by omega)] at e'
      have e2 : ir_in (h (3 * a)) = h (3 * a) + 4 := by unfold ir_in; rw [if_pos (by omega)]
      have e2' : ir_in (h (3 * a')) = h (3 * a') + 4 := by unfold ir_in; rw [if_pos (by omega)]
      rcases r1 with r1 | r1 <;> rcases r2 with r2 | r2
      · omega
      · exfalso
        have g1 := g.2.2.2.1
        have g2 := g.2.2.2.2
        rw [r1, e, e2, r2] at g1
        rw [r2, e', e2', r1] at g2
        omega
      · exfalso
        have g1 := g.2.2.2.1
        have g2 := g.2.2.2.2
        rw [r2, e', e2', r1] at g1
        rw [r1, e, e2, r2] at g2
        omega
      · omega
end
theorem i_vc_facing {k : Nat} {u : SX} {v : SY} (I : i_Rel k u v) (hk : k + 3 ≤ 1536) : wpX_facing (fun r => wpY_facing (fun r' => r' = r ∧ i_Rel (k + 3) u v) v) u := by
  obtain ⟨fc, fe, fs, fl, fr, ak, aw, xk, xw, ir, re⟩ := u
  obtain ⟨gc, gw, ge, gm, gl, gs, bk, bf, bs, rk, rf, rs, mt⟩ := v
  obtain ⟨c, m, h, e1, e2, e3, e4, R⟩ := I
  dsimp only at e1 e2 e3 e4 R
  have e5 := e4.symm
  clear e4
  subst e1 e2 e3 e5
  have R' := R
  obtain ⟨c10, k3, H, W, Y⟩ := R'
  have m17 := ir_m R
  obtain ⟨f, s, A, G⟩ := Y
  refine fa_x c10 (fun p hp => ir_h36 c10 H hp) W ?_
  refine fa_y (by omega) A G ⟨?_, ir_mk R⟩
  rw [fa_eq c10 H G]
