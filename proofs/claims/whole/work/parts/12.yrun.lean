/-! the reference's run -/
def yl_R (n : Nat) (N : fz_N) (e l m : Nat) (rk rf rs : Nat → Int32) (h g : Nat → Nat) : Prop := md_R 4 yl_E yl_U e rk h g N ∧ yl_W m rf rs h ∧ N.2.2 = l + n ∧ e ≤ 10 + 4 * n ∧ m ≤ 20 + 3 * n
theorem yl_Rb {n : Nat} {N : fz_N} {e l m : Nat} {rk rf rs : Nat → Int32} {h g : Nat → Nat} (R : yl_R n N e l m rk rf rs h g) (hn : n ≤ 120) : yl_b h := by
  intro x hx
  have r6 := R.1.2.2.2.2.2.2.2
  by_cases d : md_D 4 yl_E (md_v e rk) x
  · have q := md_DB e 0 rk _ (r6.1 x d).1
    have h2 := R.2.2.2.1
    unfold yl_E at q
    omega
  · rw [r6.2 x d]
    exact hx
theorem yl_Rt {n : Nat} {N : fz_N} {e l m : Nat} {rk rf rs : Nat → Int32} {h g : Nat → Nat} (R : yl_R n N e l m rk rf rs h g) : ∀ t s, e ≤ t → s < 3 → h (md_p 4 t s) = md_p 4 t s := by
  intro t s ht hs
  have r6 := R.1.2.2.2.2.2.2.2
  refine r6.2 _ (fun z => ?_)
  have q := md_DB e 0 rk _ z
  unfold yl_E md_p at q
  omega
section
variable {gc gw ge gl gs : Int32} {bk bf bs rk rf rs mt : Nat → Int32}
theorem yl_st {post : SY → Prop} {n : Nat} {N : fz_N} {e l m : Nat} {h g : Nat → Nat} (R : yl_R n N e l m rk rf rs h g) (hn : n < 120) {i a b : Nat} (him : i < m) (efa : rf i = nI (md_p 4 a 0)) (efb : rs i = nI (md_p 4 b 0)) (F : xl_F rk h 4 e a b)
    (H : ∀ e' l' m' rk' rf' rs' h' g', yl_R (n + 1) (fz_st N (g a) (g b)) e' l' m' rk' rf' rs' h' g' → post (gc, gw, nI e', nI m', nI l', gs, bk, bf, bs, rk', rf', rs', mt)) :
    wpY_step post (gc, gw, nI e, nI m, nI l, gs, bk, bf, bs, rk, rf, rs, mt) (nI i) := by
  have R0 := R
  obtain ⟨M, W, eL, e4, m3⟩ := R
  obtain ⟨ha, hb, la, lb, hab, hh⟩ := F
  have hbd := yl_Rb R0 (by omega)
  have hi := md_Rh M
  have hfr := yl_Rt R0
  have nba : b ≠ a := fun z => hab z.symm
  have hh' : h (md_p 4 b 0) = md_p 4 a 0 := by rw [← hh]; exact hi _
  obtain ⟨AC, k3a, k3b⟩ := md_face M ha hb la lb hab hh
  have pab : md_p 4 a 0 ≠ md_p 4 b 0 := yl_pn (by omega) (by omega) hab
  have pba : md_p 4 b 0 ≠ md_p 4 a 0 := fun z => pab z.symm
  obtain ⟨f, s, A, G⟩ := W
  have ga := G.1 i him
  have fa : f i = md_p 4 a 0 := (nI_eq (by omega) (by unfold md_p; omega)).mp ((A i him).1.symm.trans efa)
  have sb : s i = md_p 4 b 0 := (nI_eq (by omega) (by unfold md_p; omega)).mp ((A i him).2.symm.trans efb)
  unfold wpY_step
  dsimp only
  rw [nI_clamp (show i < 2 ^ 31 by omega), efa, efb, yl_cel (by omega), yl_cel (by omega)]
  refine ⟨vp_in_nI (by omega) (by omega), by decide, nm_e ⟨vp_in_nI (by omega) (by omega), by decide, nm_e ⟨vp_in_nI (by omega) (by omega), ?_⟩⟩⟩
  rw [nI_clamp (show a < 2 ^ 31 by omega), nI_clamp (show b < 2 ^ 31 by omega)]
  refine nm_e ⟨vp_in_nI (by omega) (by omega), nm_e ?_⟩
  refine yl_tw (by omega) him A G (fun rf1 rs1 W1 => ?_)
  rw [fa, sb, yl_Cl hi pab hh] at W1
  dsimp only
  refine ⟨vp_in_nI (by omega) (by omega), nm_e ⟨vp_in_nI (by omega) (by omega), nm_e ?_⟩⟩
  have i1 : fz_I (fz_F h (md_p 4 a 0) (md_p 4 b 0)) := fz_inv hi pab
  have b1 : yl_b (fz_F h (md_p 4 a 0) (md_p 4 b 0)) := yl_bF hbd (yl_pb (by omega) (by omega)) (yl_pb (by omega) (by omega))
  have es : fz_F h (md_p 4 b 0) (md_p 4 a 0) = fz_F h (md_p 4 a 0) (md_p 4 b 0) := funext (fz_symm hi pba)
  have eu := md_uc (rk := rk) hab
  have fr1 : ∀ t s, e ≤ t → s < 3 → fz_F h (md_p 4 a 0) (md_p 4 b 0) (md_p 4 t s) = md_p 4 t s := fun t s ht hs => md_FK (hfr t s ht hs) (yl_pn hs (by omega) (by omega)) (yl_pn hs (by omega) (by omega)) (yl_pn hs (by omega) (by omega)) (yl_pn hs (by omega) (by omega))
  have k2 : ∀ k : Int32, fz_k3 k → (2 ≤ k ↔ k = 2) := by
    intro k hk
    rcases hk with z | z | z <;> rw [z] <;> decide
  have k2a := k2 _ k3a
  have k2b := k2 _ k3b
  by_cases ck : rk a = rk b
  · refine br_t ck ?_
    by_cases c2 : rk a = 2
    · refine br_t (k2a.mpr c2) ?_
      unfold wY_step_109
      refine br_t (k2a.mpr c2) ?_
      unfold wY_step_148
      refine br_t ck ?_
      have q := md_s0 M ha hb la lb hab hh c2 (ck ▸ c2)
      exact H _ _ _ _ _ _ _ _ ⟨q.1, W1, by rw [q.2, eL]; omega, by omega, by omega⟩
    · refine br_f (fun z => c2 (k2a.mp z)) ?_
      have q := md_s1 M ha hb la lb hab hh ck c2
      rw [yl_q1, yl_q1, yl_q2, yl_q2]
      refine yl_me (by omega) W1 i1 (yl_pb (by omega) (by omega)) (yl_pb (by omega) (by omega)) (yl_pn (by omega) (by omega) hab) b1 (fun m2 rf2 rs2 hm2 W2 => ?_)
      dsimp only
      have i2 : fz_I (fz_F (fz_F h (md_p 4 a 0) (md_p 4 b 0)) (md_p 4 a 1) (md_p 4 b 1)) := fz_inv i1 (yl_pn (by omega) (by omega) hab)
      have b2 : yl_b (fz_F (fz_F h (md_p 4 a 0) (md_p 4 b 0)) (md_p 4 a 1) (md_p 4 b 1)) := yl_bF b1 (yl_pb (by omega) (by omega)) (yl_pb (by omega) (by omega))
      refine yl_me (by omega) W2 i2 (yl_pb (by omega) (by omega)) (yl_pb (by omega) (by omega)) (yl_pn (by omega) (by omega) hab) b2 (fun m3' rf3 rs3 hm3 W3 => ?_)
      exact H _ _ _ _ _ _ _ _ ⟨q.1, W3, by rw [q.2, eL]; omega, by omega, by omega⟩
  · refine br_f ck ?_
    unfold wY_step_109
    by_cases ca : rk a = 2
    · refine br_t (k2a.mpr ca) ?_
      unfold wY_step_148
      refine br_f ck (br_t ca ?_)
      unfold wY_step_167
      have cb : rk b ≠ 2 := fun z => ck (ca.trans z.symm)
      obtain ⟨g', q1, q2⟩ := md_er M hb ha lb la nba hh' cb ca
      rw [es, eu, fz_st_sym M.1 (fz_acs M.1 AC)] at q1
      rw [fz_st_sym M.1 (fz_acs M.1 AC)] at q2
      refine yl_er (by omega) (by omega) hb W1 i1 b1 (fr1 e 0 (by omega) (by omega)) (fr1 (e + 1) 0 (by omega) (by omega)) (fun rf2 rs2 W2 => ?_)
      exact H _ _ _ _ _ _ _ _ ⟨q1, W2, by rw [q2, eL]; omega, by omega, by omega⟩
    · refine br_f (fun z => ca (k2a.mp z)) ?_
      by_cases cb : rk b = 2
      · refine br_t (k2b.mpr cb) ?_
        unfold wY_step_148
        refine br_f ck (br_f ca ?_)
        unfold wY_step_167
        obtain ⟨g', q1, q2⟩ := md_er M ha hb la lb hab hh ca cb
        refine yl_er (by omega) (by omega) ha W1 i1 b1 (fr1 e 0 (by omega) (by omega)) (fr1 (e + 1) 0 (by omega) (by omega)) (fun rf2 rs2 W2 => ?_)
        exact H _ _ _ _ _ _ _ _ ⟨q1, W2, by rw [q2, eL]; omega, by omega, by omega⟩
      · refine br_f (fun z => cb (k2b.mp z)) ?_
        by_cases c0 : rk a = 0
        · refine br_t c0 ?_
          unfold wY_step_132
          refine br_t c0 ?_
          unfold wY_step_142
          have c1 : rk b = 1 := by
            rcases k3b with z | z | z
            · exact absurd (c0.trans z.symm) ck
            · exact z
            · exact absurd z cb
          obtain ⟨g', q1, q2⟩ := md_cp M ha hb la lb hab hh c0 c1
          refine yl_cp (by omega) (by omega) ha hb hab W1 i1 b1 fr1 (fun rf2 rs2 W2 => ?_)
          exact H _ _ _ _ _ _ _ _ ⟨q1, W2, by rw [q2, eL]; omega, by omega, by omega⟩
        · refine br_f c0 ?_
          unfold wY_step_132
          refine br_f c0 ?_
          unfold wY_step_142
          have c1 : rk a = 1 := by
            rcases k3a with z | z | z
            · exact absurd z c0
            · exact z
            · exact absurd z ca
          have d0 : rk b = 0 := by
            rcases k3b with z | z | z
            · exact z
            · exact absurd (c1.trans z.symm) ck
            · exact absurd z cb
          obtain ⟨g', q1, q2⟩ := md_cp M hb ha lb la nba hh' d0 c1
          rw [es, eu, fz_st_sym M.1 (fz_acs M.1 AC)] at q1
          rw [fz_st_sym M.1 (fz_acs M.1 AC)] at q2
          refine yl_cp (by omega) (by omega) hb ha nba W1 i1 b1 fr1 (fun rf2 rs2 W2 => ?_)
          exact H _ _ _ _ _ _ _ _ ⟨q1, W2, by rw [q2, eL]; omega, by omega, by omega⟩
theorem yl_hd {post : Int32 → Prop} {gm : Int32} {p : Nat} (hp : p < 2000) (h0 : (p < 4 ∨ (p - 4) % 3 ≠ 0) → post 0) (h1 : 4 ≤ p → (p - 4) % 3 = 0 → post 1) : wpY_isHead post (gc, gw, ge, gm, gl, gs, bk, bf, bs, rk, rf, rs, mt) (nI p) := by
  unfold wpY_isHead
  dsimp only
  by_cases c : p < 4
  · exact br_t (nI_le (b := 3) (by omega) (by omega)) (h0 (Or.inl c))
  · rw [show nI p - 4 = nI (p - 4) from pk_sub (b := 4) (by omega), xl_rm (by omega)]
    refine br_f (nI_ge (a := 3) (by omega) (by omega)) ⟨by decide, ?_⟩
    by_cases d : (p - 4) % 3 = 0
    · rw [d]
      exact br_t nI_0 (h1 (by omega) d)
    · exact br_f (nI_ne0 (by omega) (by omega)) (h0 (Or.inr d))
theorem yl_fc {post : Int32 → Prop} {n : Nat} {N : fz_N} {e l m : Nat} {h g : Nat → Nat} (R : yl_R n N e l m rk rf rs h g) (hn : n ≤ 120) (h1 : fz_no N → post (-1)) (h2 : ∀ i a b, i < m → rf i = nI (md_p 4 a 0) → rs i = nI (md_p 4 b 0) → xl_F rk h 4 e a b → post (nI i)) :
    wpY_findFacing post (gc, gw, nI e, nI m, gl, gs, bk, bf, bs, rk, rf, rs, mt) := by
  have m3 := R.2.2.2.2
  obtain ⟨f, s, A, G⟩ := R.2.1
  have r6 := R.1.2.2.2.2.2.2.2
  have live : ∀ p, h p ≠ p → 4 ≤ p → (p - 4) / 3 < e ∧ rk ((p - 4) / 3) ≠ -1 := by
    intro p hp h4
    have d : md_D 4 yl_E (md_v e rk) p := by
      by_cases q : md_D 4 yl_E (md_v e rk) p
      · exact q
      · exact absurd (r6.2 _ q) hp
    have q := md_DB e 0 rk _ d
    unfold yl_E at q
    rcases q with q | ⟨_, q | q⟩
    · omega
    · exact q
    · omega
  have key : ∀ d i, i + d = m → (∀ j, j < i → ¬ (4 ≤ f j ∧ (f j - 4) % 3 = 0 ∧ 4 ≤ s j ∧ (s j - 4) % 3 = 0)) → wY_findFacing_2 post gc gw (nI e) (nI m) gl gs bk bf bs rk rf rs mt (d + 1) (nI i) := by
    intro d
    induction d with
    | zero =>
      intro i hi hj
      refine br_t (nI_le (by omega) (by omega)) (h1 (md_no R.1 (fun c c' q1 q2 q3 q4 q5 q6 => ?_)))
      have q7 : h (md_p 4 c 0) ≠ md_p 4 c 0 := by
        rw [q6]
        exact yl_pn (by omega) (by omega) (fun z => q5 z.symm)
      obtain ⟨j, hjm, ej⟩ := G.2.1 _ q7
      have gj := G.1 j hjm
      apply hj j (by omega)
      rcases ej with ej | ej
      · have e2 : s j = md_p 4 c' 0 := by rw [← gj.2.2.2.1, ej, q6]
        rw [ej, e2]
        unfold md_p
        omega
      · have e2 : f j = md_p 4 c' 0 := by rw [← gj.2.2.2.2, ej, q6]
        rw [ej, e2]
        unfold md_p
        omega
    | succ d ih =>
      intro i hi hj
      have a := A i (by omega)
      have b := G.1 i (by omega)
      refine br_f (nI_ge (by omega) (by omega)) ⟨vp_in_nI (by omega) (by omega), ?_⟩
      rw [nI_clamp (show i < 2 ^ 31 by omega), a.1, a.2]
      have next : ¬ (4 ≤ f i ∧ (f i - 4) % 3 = 0 ∧ 4 ≤ s i ∧ (s i - 4) % 3 = 0) → wY_findFacing_2 post gc gw (nI e) (nI m) gl gs bk bf bs rk rf rs mt (d + 1) (nI (i + 1)) := by
        intro ni
        refine ih (i + 1) (by omega) (fun j hj' => ?_)
        by_cases e : j = i
        · rw [e]; exact ni
        · exact hj j (by omega)
      refine yl_hd b.1 (fun z => ?_) (fun z1 z2 => ?_)
      · exact br_t rfl (nm_r (nI_1 i) (next (by omega)))
      · refine br_f (by decide) ⟨vp_in_nI (by omega) (by omega), ?_⟩
        refine yl_hd b.2.1 (fun z => ?_) (fun z3 z4 => ?_)
        · exact br_t rfl (nm_r (nI_1 i) (next (by omega)))
        · refine br_f (by decide) ?_
          have ef : f i = md_p 4 ((f i - 4) / 3) 0 := by unfold md_p; omega
          have es : s i = md_p 4 ((s i - 4) / 3) 0 := by unfold md_p; omega
          have lf := live (f i) (by rw [b.2.2.2.1]; exact fun z => b.2.2.1 z.symm) z1
          have ls := live (s i) (by rw [b.2.2.2.2]; exact b.2.2.1) z3
          refine h2 i ((f i - 4) / 3) ((s i - 4) / 3) (by omega) ?_ ?_ ⟨lf.1, ls.1, lf.2, ls.2, fun z => b.2.2.1 (by rw [ef, es, z]), ?_⟩
          · rw [← ef]; exact a.1
          · rw [← es]; exact a.2
          · rw [← ef, ← es]; exact b.2.2.2.1
  exact ⟨_, key m 0 (by omega) (fun j hj => by omega)⟩
theorem yl_lp {post : Int32 → SY → Prop} {N0 : fz_N}
    (H : ∀ k N e l m rk rf rs h g, k ≤ 120 → fz_pa k N0 N → yl_R k N e l m rk rf rs h g → (fz_no N → post 1 (gc, gw, nI e, nI m, nI l, nI k, bk, bf, bs, rk, rf, rs, mt)) ∧ (k = 120 → ¬ fz_no N → post 0 (gc, gw, nI e, nI m, nI l, nI k, bk, bf, bs, rk, rf, rs, mt))) :
    ∀ d k N e l m rk rf rs h g r, k + d = 120 → fz_pa k N0 N → yl_R k N e l m rk rf rs h g → ((r = -1 ∧ fz_no N) ∨ ∃ i a b, r = nI i ∧ i < m ∧ rf i = nI (md_p 4 a 0) ∧ rs i = nI (md_p 4 b 0) ∧ xl_F rk h 4 e a b) →
      wY_run_99 post (d + 1) r gc gw (nI e) (nI m) (nI l) (nI k) bk bf bs rk rf rs mt := by
  intro d
  induction d with
  | zero =>
    intro k N e l m rk rf rs h g r hk pa R hr
    have HH := H k N e l m rk rf rs h g (by omega) pa R
    have m3 := R.2.2.2.2
    rcases hr with ⟨r1, r2⟩ | ⟨i, a, b, r1, r2, r3, r4, r5⟩
    · rw [r1]
      refine br_t (by decide) ?_
      unfold wY_run_135
      exact br_f (by decide) (HH.1 r2)
    · rw [r1]
      refine br_f (nI_pos (by omega)) (br_t (nI_le (a := 120) (by omega) (by omega)) ?_)
      unfold wY_run_135
      refine br_t (nI_pos' (by omega)) (HH.2 (by omega) (fun no => ?_))
      exact no _ _ (md_face R.1 r5.1 r5.2.1 r5.2.2.1 r5.2.2.2.1 r5.2.2.2.2.1 r5.2.2.2.2.2).1
  | succ d ih =>
    intro k N e l m rk rf rs h g r hk pa R hr
    have HH := H k N e l m rk rf rs h g (by omega) pa R
    have m3 := R.2.2.2.2
    rcases hr with ⟨r1, r2⟩ | ⟨i, a, b, r1, r2, r3, r4, r5⟩
    · rw [r1]
      refine br_t (by decide) ?_
      unfold wY_run_135
      exact br_f (by decide) (HH.1 r2)
    · rw [r1]
      refine br_f (nI_pos (by omega)) (br_f (nI_ge (b := 120) (by omega) (by omega)) ?_)
      refine yl_st R (by omega) r2 r3 r4 r5 (fun e' l' m' rk' rf' rs' h' g' R' => ?_)
      dsimp only
      refine nm_r (nI_1 k) ?_
      have pa' := fz_snoc k N0 N _ _ pa (md_face R.1 r5.1 r5.2.1 r5.2.2.1 r5.2.2.2.1 r5.2.2.2.2.1 r5.2.2.2.2.2).1
      refine yl_fc R' (by omega) (fun no => ?_) (fun i' a' b' q1 q2 q3 q4 => ?_)
      · exact ih (k + 1) _ e' l' m' rk' rf' rs' h' g' _ (by omega) pa' R' (Or.inl ⟨rfl, no⟩)
      · exact ih (k + 1) _ e' l' m' rk' rf' rs' h' g' _ (by omega) pa' R' (Or.inr ⟨i', a', b', rfl, q1, q2, q3, q4⟩)
theorem yl_c2 {post : Int32 → SY → Prop} {gm : Int32} {m : Nat} (hm : m ≤ 20) (hgw : gw = nI m)
    (H : ∀ rf' rs', (∀ p, p < m → rf' p = bf p ∧ rs' p = bs p) → wpY_findFacing (fun r => ∃ n99 : Nat, wY_run_99 post n99 r gc gw ge gw 0 0 bk bf bs rk rf' rs' mt) (gc, gw, ge, gw, 0, 0, bk, bf, bs, rk, rf', rs', mt)) :
    ∀ d i rf rs, i + d = m → (∀ p, p < i → rf p = bf p ∧ rs p = bs p) → wY_run_38 post gc gw ge gm gl gs (d + 1) (nI i) bk bf bs rk rf rs mt := by
  subst hgw
  intro d
  induction d with
  | zero =>
    intro i rf rs hi hq
    exact br_t (nI_le (by omega) (by omega)) (H rf rs (fun p hp => hq p (by omega)))
  | succ d ih =>
    intro i rf rs hi hq
    refine br_f (nI_ge (by omega) (by omega)) ?_
    rw [nI_clamp (show i < 2 ^ 31 by omega)]
    refine ⟨vp_in_nI (by omega) (by omega), vp_in_nI (by omega) (by omega), nm_e ⟨vp_in_nI (by omega) (by omega), vp_in_nI (by omega) (by omega), nm_e (nm_r (nI_1 i) (ih (i + 1) _ _ (by omega) (fun p hp => ?_)))⟩⟩
    by_cases c : p = i
    · rw [c, pk_us, pk_us]; exact ⟨rfl, rfl⟩
    · rw [pk_un c, pk_un c]; exact hq p (by omega)
theorem yl_c1 {post : Int32 → SY → Prop} {gm : Int32} {c m : Nat} (hc : c ≤ 10) (hgc : gc = nI c) (hm : m ≤ 20) (hgw : gw = nI m)
    (H : ∀ rk' rf' rs', (∀ p, p < c → rk' p = bk p) → (∀ p, p < m → rf' p = bf p ∧ rs' p = bs p) → wpY_findFacing (fun r => ∃ n99 : Nat, wY_run_99 post n99 r gc gw gc gw 0 0 bk bf bs rk' rf' rs' mt) (gc, gw, gc, gw, 0, 0, bk, bf, bs, rk', rf', rs', mt)) :
    ∀ d i rk, i + d = c → (∀ p, p < i → rk p = bk p) → wY_run_2 post gc gw ge gm gl gs (d + 1) (nI i) bk bf bs rk rf rs mt := by
  subst hgc
  intro d
  induction d with
  | zero =>
    intro i rk hi hq
    refine br_t (nI_le (by omega) (by omega)) ⟨m + 1, ?_⟩
    exact yl_c2 hm hgw (fun rf' rs' hw => H rk rf' rs' (fun p hp => hq p (by omega)) hw) m 0 rf rs (by omega) (fun p hp => by omega)
  | succ d ih =>
    intro i rk hi hq
    refine br_f (nI_ge (by omega) (by omega)) ?_
    rw [nI_clamp (show i < 2 ^ 31 by omega)]
    refine ⟨vp_in_nI (by omega) (by omega), vp_in_nI (by omega) (by omega), nm_e (nm_r (nI_1 i) (ih (i + 1) _ (by omega) (fun p hp => ?_)))⟩
    by_cases z : p = i
    · rw [z, pk_us]
    · rw [pk_un z]; exact hq p (by omega)
/-- a run of the reference, from a net that its copy is -/
theorem yl_run {post : Int32 → SY → Prop} {gm : Int32} {c m : Nat} {N0 : fz_N} {h0 g0 : Nat → Nat} (hc : c ≤ 10) (hgc : gc = nI c) (hm : m ≤ 20) (hgw : gw = nI m)
    (R0 : ∀ rk' rf' rs', (∀ p, p < c → rk' p = bk p) → (∀ p, p < m → rf' p = bf p ∧ rs' p = bs p) → yl_R 0 N0 c 0 m rk' rf' rs' h0 g0)
    (H : ∀ k N e l m rk rf rs h g, k ≤ 120 → fz_pa k N0 N → yl_R k N e l m rk rf rs h g → (fz_no N → post 1 (gc, gw, nI e, nI m, nI l, nI k, bk, bf, bs, rk, rf, rs, mt)) ∧ (k = 120 → ¬ fz_no N → post 0 (gc, gw, nI e, nI m, nI l, nI k, bk, bf, bs, rk, rf, rs, mt))) :
    wpY_run post (gc, gw, ge, gm, gl, gs, bk, bf, bs, rk, rf, rs, mt) := by
  unfold wpY_run
  dsimp only
  refine ⟨c + 1, ?_⟩
  refine yl_c1 hc hgc hm hgw (fun rk' rf' rs' h1 h2 => ?_) c 0 rk (by omega) (fun p hp => by omega)
  have R := R0 rk' rf' rs' h1 h2
  rw [hgc, hgw] at *
  refine yl_fc R (by omega) (fun no => ?_) (fun i a b q1 q2 q3 q4 => ?_)
  · exact ⟨121, yl_lp H 120 0 N0 c 0 m rk' rf' rs' h0 g0 _ (by omega) rfl R (Or.inl ⟨rfl, no⟩)⟩
  · exact ⟨121, yl_lp H 120 0 N0 c 0 m rk' rf' rs' h0 g0 _ (by omega) rfl R (Or.inr ⟨i, a, b, rfl, q1, q2, q3, q4⟩)⟩
end
