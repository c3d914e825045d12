/-! the reference's step -/
def yl_E (p : Nat) : Prop := p < 4
def yl_U (p : Nat) : Nat := if p < 3 then 156 + p else 162
def yl_b (h : Nat → Nat) : Prop := ∀ x, x < 2000 → h x < 2000
theorem yl_bF {h : Nat → Nat} (H : yl_b h) {p q : Nat} (hp : p < 2000) (hq : q < 2000) : yl_b (fz_F h p q) := by
  intro x hx
  have a := H x hx
  have b := H p hp
  have c := H q hq
  unfold fz_F
  repeat' split
  all_goals assumption
theorem yl_bM {h : Nat → Nat} (H : yl_b h) {p t : Nat} (hp : p < 2000) (ht : t < 2000) : yl_b (md_M h p t) := by
  intro x hx
  have a := H x hx
  have b := H p hp
  unfold md_M
  repeat' split
  all_goals assumption
theorem yl_pb {c s : Nat} (hc : c < 600) (hs : s < 3) : md_p 4 c s < 2000 := by unfold md_p; omega
theorem yl_pn {c s c' s' : Nat} (hs : s < 3) (hs' : s' < 3) (h : c ≠ c') : md_p 4 c s ≠ md_p 4 c' s' := fun z => h ((md_pe hs hs').mp z).1
theorem yl_ps {c s s' : Nat} (hs : s < 3) (hs' : s' < 3) (h : s ≠ s') : md_p 4 c s ≠ md_p 4 c s' := fun z => h ((md_pe hs hs').mp z).2
theorem yl_q {c s : Nat} : (4 + 3 * nI c) + nI s = nI (md_p 4 c s) := by
  rw [xl_3, show (4 : Int32) + nI (3 * c) = nI (4 + 3 * c) from nI_add 4 _, nI_add]; rfl
theorem yl_q1 {c : Nat} : (4 + 3 * nI c) + 1 = nI (md_p 4 c 1) := yl_q (s := 1)
theorem yl_q2 {c : Nat} : (4 + 3 * nI c) + 2 = nI (md_p 4 c 2) := yl_q (s := 2)
theorem yl_r2 {c : Nat} : nI (md_p 4 c 1) + 1 = nI (md_p 4 c 2) := by rw [xl_a1]; rfl
theorem yl_cel {c : Nat} (hc : c < 600) : (nI (md_p 4 c 0) - 4) / 3 = nI c := by
  rw [show nI (md_p 4 c 0) - 4 = nI (md_p 4 c 0 - 4) from pk_sub (b := 4) (by unfold md_p; omega), xl_dv (by unfold md_p; omega)]
  congr 1
  unfold md_p; omega
theorem md_Mc {h : Nat → Nat} {p t p' t' : Nat} (hi : fz_I h) (ht : h t = t) (ht' : h t' = t') (a1 : p ≠ t) (a2 : p ≠ p') (a3 : p ≠ t') (a4 : t ≠ p') (a5 : t ≠ t') (a6 : p' ≠ t') : md_M (md_M h p t) p' t' = md_M (md_M h p' t') p t := by
  funext x
  have hx := hi x
  have hp := hi p
  have hp' := hi p'
  unfold md_M
  grind (splits := 40)
theorem md_Jk {h : Nat → Nat} {s t x : Nat} (hx : h x = x) (h1 : x ≠ s) (h2 : x ≠ t) : md_J h s t x = x := by
  unfold md_J
  rw [if_neg h1, if_neg h2, hx]
section
variable {gc gw ge gl gs : Int32} {bk bf bs rk rf rs mt : Nat → Int32}
theorem yl_me {post : SY → Prop} {m p q l : Nat} {h : Nat → Nat} (hm : m ≤ 520) (W : yl_W m rf rs h) (hi : fz_I h) (p2 : p < 2000) (q2 : q < 2000) (hpq : p ≠ q) (hb : yl_b h)
    (H : ∀ m' rf' rs', m' ≤ m → yl_W m' rf' rs' (fz_F h p q) → post (gc, gw, ge, nI m', nI (l + fz_L h p q), gs, bk, bf, bs, rk, rf', rs', mt)) : wpY_melt post (gc, gw, ge, nI m, nI l, gs, bk, bf, bs, rk, rf, rs, mt) (nI p) (nI q) := by
  have hp' := hb p p2
  have hq' := hb q q2
  unfold wpY_melt
  dsimp only
  refine yl_ac hm p2 W ?_
  refine yl_ac hm q2 W ?_
  -- the part behind p's wire
  have back : ∀ (m1 : Nat) (rf1 rs1 : Nat → Int32), m1 ≤ m → (h p ≠ p → m1 + 1 ≤ m) → yl_W m1 rf1 rs1 (yl_C h p (h p)) → wY_melt_31 post (nI q) (md_fo p (h p)) (md_fo q (h q)) gc gw ge (nI m1) (nI l) gs bk bf bs rk rf1 rs1 mt := by
    intro m1 rf1 rs1 hm1 hm2 W1
    unfold wY_melt_31
    by_cases b : h p = q
    · have eL : fz_L h p q = 1 := if_pos b
      rw [eL] at H
      rw [xl_a1]
      refine br_t (by rw [b]; exact md_fo_n (fun z => hpq z.symm)) (nm_e (H m1 rf1 rs1 hm1 ?_))
      rw [b, yl_Cl hi hpq b] at W1
      exact W1
    · have eL : fz_L h p q = 0 := if_neg b
      rw [eL] at H
      have ne1 : ¬ md_fo p (h p) = nI q := by
        by_cases c : h p = p
        · rw [c, md_fo_s]
          exact fun z => xl_nm1 (by omega) z.symm
        · rw [md_fo_n c]
          exact fun z => b ((nI_eq (by omega) (by omega)).mp z)
      refine br_f ne1 ?_
      have e1 : yl_C h p (h p) q = h q := yl_C4 b hpq
      refine yl_dr (Q := fun u => wY_melt_65 post (md_fo p (h p)) (md_fo q (h q)) u.1 u.2.1 u.2.2.1 u.2.2.2.1 u.2.2.2.2.1 u.2.2.2.2.2.1 u.2.2.2.2.2.2.1 u.2.2.2.2.2.2.2.1 u.2.2.2.2.2.2.2.2.1 u.2.2.2.2.2.2.2.2.2.1 u.2.2.2.2.2.2.2.2.2.2.1 u.2.2.2.2.2.2.2.2.2.2.2.1 u.2.2.2.2.2.2.2.2.2.2.2.2) (by omega) q2 W1 (fun z => ?_) (fun z z1 rf2 rs2 W2 => ?_) (fun k => br_t (by decide) k) (fun i hi' k => br_f (nI_pos (by omega)) k)
      · rw [e1] at z
        dsimp only
        unfold wY_melt_65
        by_cases c : h p = p
        · rw [c, md_fo_s]
          refine br_t (by decide) (H m1 rf1 rs1 hm1 ?_)
          rw [← yl_C0 hi hpq c z]
          have : yl_C h p (h p) = h := by
            funext x
            unfold yl_C
            rw [c]
            split
            · rename_i xe; rw [xe, c]
            · rfl
          rw [this] at W1
          exact W1
        · rw [md_fo_n c, z, md_fo_s]
          refine br_f (nI_pos (by omega)) (br_t (by decide) (H m1 rf1 rs1 hm1 ?_))
          rw [yl_C2 hi hpq b c z] at W1
          exact W1
      · rw [e1] at z W2
        dsimp only
        unfold wY_melt_65
        by_cases c : h p = p
        · rw [c, md_fo_s]
          refine br_t (by decide) (H (m1 - 1) rf2 rs2 (by omega) ?_)
          have : yl_C h p (h p) = h := by
            funext x
            unfold yl_C
            rw [c]
            split
            · rename_i xe; rw [xe, c]
            · rfl
          rw [this, yl_C1 hi hpq c z] at W2
          exact W2
        · rw [md_fo_n c, md_fo_n z]
          have hm3 := hm2 c
          have hhp := hi p
          have hhq := hi q
          have n1 : yl_C (yl_C h p (h p)) q (h q) (h p) = h p := by
            unfold yl_C
            grind
          have n2 : yl_C (yl_C h p (h p)) q (h q) (h q) = h q := by
            unfold yl_C
            grind
          have n3 : h p ≠ h q := fun w => hpq (by rw [← hhp, w, hhq])
          refine br_f (nI_pos (by omega)) (br_f (nI_pos (by omega)) ?_)
          refine yl_aw (by omega) W2 n1 n2 n3 hp' hq' (fun rf3 rs3 W3 => ?_)
          rw [yl_C3 hi hpq b c z] at W3
          exact H (m1 - 1 + 1) rf3 rs3 (by omega) W3
  refine yl_dr (Q := fun u => wY_melt_31 post (nI q) (md_fo p (h p)) (md_fo q (h q)) u.1 u.2.1 u.2.2.1 u.2.2.2.1 u.2.2.2.2.1 u.2.2.2.2.2.1 u.2.2.2.2.2.2.1 u.2.2.2.2.2.2.2.1 u.2.2.2.2.2.2.2.2.1 u.2.2.2.2.2.2.2.2.2.1 u.2.2.2.2.2.2.2.2.2.2.1 u.2.2.2.2.2.2.2.2.2.2.2.1 u.2.2.2.2.2.2.2.2.2.2.2.2) hm p2 W (fun z => ?_) (fun z z1 rf2 rs2 W2 => ?_) (fun k => br_t (by decide) k) (fun i hi' k => br_f (nI_pos (by omega)) k)
  · refine back m rf rs (Nat.le_refl m) (fun z' => absurd z z') ?_
    have : yl_C h p (h p) = h := by
      funext x
      unfold yl_C
      rw [z]
      split
      · rename_i xe; rw [xe, z]
      · rfl
    rw [this]
    exact W
  · exact back (m - 1) rf2 rs2 (by omega) (fun _ => by omega) W2
theorem yl_mk {post : Int32 → SY → Prop} {e : Nat} {gm k : Int32} (he : e < 500) (hge : ge = nI e) (H : post (nI e) (gc, gw, nI (e + 1), gm, gl, gs, bk, bf, bs, upd rk e k, rf, rs, mt)) : wpY_make post (gc, gw, ge, gm, gl, gs, bk, bf, bs, rk, rf, rs, mt) k := by
  subst hge
  unfold wpY_make
  dsimp only
  rw [xl_a1, nI_clamp (by omega)]
  refine ⟨vp_in_nI he (by omega), nm_e (nm_e ?_)⟩
  rw [nI_pred]
  exact H
theorem yl_po {post : Int32 → Prop} {gm : Int32} {c s : Nat} (H : post (nI (md_p 4 c s))) : wpY_port post (gc, gw, ge, gm, gl, gs, bk, bf, bs, rk, rf, rs, mt) (nI c) (nI s) := by
  unfold wpY_port
  dsimp only
  rw [yl_q]
  exact H
theorem yl_er {post : SY → Prop} {h : Nat → Nat} {p e m : Nat} (hm : m ≤ 520) (he : e + 1 < 500) (hp : p < e) (W : yl_W m rf rs h) (hi : fz_I h) (hb : yl_b h) (t0 : h (md_p 4 e 0) = md_p 4 e 0) (t1 : h (md_p 4 (e + 1) 0) = md_p 4 (e + 1) 0)
    (H : ∀ rf' rs', yl_W m rf' rs' (md_M (md_M h (md_p 4 p 1) (md_p 4 e 0)) (md_p 4 p 2) (md_p 4 (e + 1) 0)) → post (gc, gw, nI (e + 2), nI m, gl, gs, bk, bf, bs, upd (upd rk e 2) (e + 1) 2, rf', rs', mt)) :
    wpY_erase post (gc, gw, nI e, nI m, gl, gs, bk, bf, bs, rk, rf, rs, mt) (nI p) := by
  refine ⟨0 + 1 + 1 + 1, ?_⟩
  refine br_f (by decide) ?_
  refine yl_mk (by omega) rfl ?_
  dsimp only
  refine yl_po (s := 1) ?_
  refine yl_po (s := 0) ?_
  refine yl_mv hm W hi (yl_pb (by omega) (by omega)) (yl_pb (by omega) (by omega)) t0 (fun rf1 rs1 W1 => ?_)
  dsimp only
  refine nm_r (show (1 : Int32) + 1 = 2 by decide) ?_
  refine br_f (by decide) ?_
  refine yl_mk (e := e + 1) (by omega) rfl ?_
  dsimp only
  refine yl_po (s := 2) ?_
  refine yl_po (s := 0) ?_
  refine yl_mv hm W1 (md_Mi hi t0 (yl_pn (by omega) (by omega) (by omega))) (yl_pb (by omega) (by omega)) (yl_pb (by omega) (by omega)) (md_Mk t1 (yl_pn (by omega) (by omega) (by omega)) (yl_pn (by omega) (by omega) (by omega))) (fun rf2 rs2 W2 => ?_)
  dsimp only
  refine nm_r (show (2 : Int32) + 1 = 3 by decide) ?_
  refine br_t (by decide) ?_
  exact H rf2 rs2 W2
theorem yl_cp {post : SY → Prop} {h : Nat → Nat} {c d e m : Nat} (hm : m + 4 ≤ 520) (he : e + 3 < 500) (hc : c < e) (hd : d < e) (hcd : c ≠ d) (W : yl_W m rf rs h) (hi : fz_I h) (hb : yl_b h) (ht : ∀ t s, e ≤ t → s < 3 → h (md_p 4 t s) = md_p 4 t s)
    (H : ∀ rf' rs', yl_W (m + 4) rf' rs' (md_J (md_J (md_J (md_J (md_M (md_M (md_M (md_M h (md_p 4 c 1) (md_p 4 e 0)) (md_p 4 c 2) (md_p 4 (e + 1) 0)) (md_p 4 d 1) (md_p 4 (e + 2) 0)) (md_p 4 d 2) (md_p 4 (e + 3) 0)) (md_p 4 e 1) (md_p 4 (e + 2) 1)) (md_p 4 e 2) (md_p 4 (e + 3) 1)) (md_p 4 (e + 1) 1) (md_p 4 (e + 2) 2)) (md_p 4 (e + 1) 2) (md_p 4 (e + 3) 2)) → post (gc, gw, nI (e + 4), nI (m + 4), gl, gs, bk, bf, bs, upd (upd (upd (upd rk e 1) (e + 1) 1) (e + 2) 0) (e + 3) 0, rf', rs', mt)) :
    wpY_copyEachOther post (gc, gw, nI e, nI m, gl, gs, bk, bf, bs, rk, rf, rs, mt) (nI c) (nI d) := by
  have i0 : fz_I h := hi
  have b0 : yl_b h := hb
  have t0_E0_0 : h (md_p 4 e 0) = (md_p 4 e 0) := ht e 0 (by omega) (by omega)
  have t0_E0_1 : h (md_p 4 e 1) = (md_p 4 e 1) := ht e 1 (by omega) (by omega)
  have t1_E0_1 : (md_M h (md_p 4 c 1) (md_p 4 e 0)) (md_p 4 e 1) = (md_p 4 e 1) := md_Mk t0_E0_1 (yl_pn (by omega) (by omega) (by omega)) (yl_ps (by omega) (by omega) (by omega))
  have t2_E0_1 : (md_M (md_M h (md_p 4 c 1) (md_p 4 e 0)) (md_p 4 d 1) (md_p 4 (e + 2) 0)) (md_p 4 e 1) = (md_p 4 e 1) := md_Mk t1_E0_1 (yl_pn (by omega) (by omega) (by omega)) (yl_pn (by omega) (by omega) (by omega))
  have t3_E0_1 : (md_M (md_M (md_M h (md_p 4 c 1) (md_p 4 e 0)) (md_p 4 d 1) (md_p 4 (e + 2) 0)) (md_p 4 c 2) (md_p 4 (e + 1) 0)) (md_p 4 e 1) = (md_p 4 e 1) := md_Mk t2_E0_1 (yl_pn (by omega) (by omega) (by omega)) (yl_pn (by omega) (by omega) (by omega))
  have t4_E0_1 : (md_M (md_M (md_M (md_M h (md_p 4 c 1) (md_p 4 e 0)) (md_p 4 d 1) (md_p 4 (e + 2) 0)) (md_p 4 c 2) (md_p 4 (e + 1) 0)) (md_p 4 d 2) (md_p 4 (e + 3) 0)) (md_p 4 e 1) = (md_p 4 e 1) := md_Mk t3_E0_1 (yl_pn (by omega) (by omega) (by omega)) (yl_pn (by omega) (by omega) (by omega))
  have t0_E0_2 : h (md_p 4 e 2) = (md_p 4 e 2) := ht e 2 (by omega) (by omega)
  have t1_E0_2 : (md_M h (md_p 4 c 1) (md_p 4 e 0)) (md_p 4 e 2) = (md_p 4 e 2) := md_Mk t0_E0_2 (yl_pn (by omega) (by omega) (by omega)) (yl_ps (by omega) (by omega) (by omega))
  have t2_E0_2 : (md_M (md_M h (md_p 4 c 1) (md_p 4 e 0)) (md_p 4 d 1) (md_p 4 (e + 2) 0)) (md_p 4 e 2) = (md_p 4 e 2) := md_Mk t1_E0_2 (yl_pn (by omega) (by omega) (by omega)) (yl_pn (by omega) (by omega) (by omega))
  have t3_E0_2 : (md_M (md_M (md_M h (md_p 4 c 1) (md_p 4 e 0)) (md_p 4 d 1) (md_p 4 (e + 2) 0)) (md_p 4 c 2) (md_p 4 (e + 1) 0)) (md_p 4 e 2) = (md_p 4 e 2) := md_Mk t2_E0_2 (yl_pn (by omega) (by omega) (by omega)) (yl_pn (by omega) (by omega) (by omega))
  have t4_E0_2 : (md_M (md_M (md_M (md_M h (md_p 4 c 1) (md_p 4 e 0)) (md_p 4 d 1) (md_p 4 (e + 2) 0)) (md_p 4 c 2) (md_p 4 (e + 1) 0)) (md_p 4 d 2) (md_p 4 (e + 3) 0)) (md_p 4 e 2) = (md_p 4 e 2) := md_Mk t3_E0_2 (yl_pn (by omega) (by omega) (by omega)) (yl_pn (by omega) (by omega) (by omega))
  have t5_E0_2 : (md_J (md_M (md_M (md_M (md_M h (md_p 4 c 1) (md_p 4 e 0)) (md_p 4 d 1) (md_p 4 (e + 2) 0)) (md_p 4 c 2) (md_p 4 (e + 1) 0)) (md_p 4 d 2) (md_p 4 (e + 3) 0)) (md_p 4 e 1) (md_p 4 (e + 2) 1)) (md_p 4 e 2) = (md_p 4 e 2) := md_Jk t4_E0_2 (yl_ps (by omega) (by omega) (by omega)) (yl_pn (by omega) (by omega) (by omega))
  have t0_E1_0 : h (md_p 4 (e + 1) 0) = (md_p 4 (e + 1) 0) := ht (e + 1) 0 (by omega) (by omega)
  have t1_E1_0 : (md_M h (md_p 4 c 1) (md_p 4 e 0)) (md_p 4 (e + 1) 0) = (md_p 4 (e + 1) 0) := md_Mk t0_E1_0 (yl_pn (by omega) (by omega) (by omega)) (yl_pn (by omega) (by omega) (by omega))
  have t2_E1_0 : (md_M (md_M h (md_p 4 c 1) (md_p 4 e 0)) (md_p 4 d 1) (md_p 4 (e + 2) 0)) (md_p 4 (e + 1) 0) = (md_p 4 (e + 1) 0) := md_Mk t1_E1_0 (yl_pn (by omega) (by omega) (by omega)) (yl_pn (by omega) (by omega) (by omega))
  have t0_E1_1 : h (md_p 4 (e + 1) 1) = (md_p 4 (e + 1) 1) := ht (e + 1) 1 (by omega) (by omega)
  have t1_E1_1 : (md_M h (md_p 4 c 1) (md_p 4 e 0)) (md_p 4 (e + 1) 1) = (md_p 4 (e + 1) 1) := md_Mk t0_E1_1 (yl_pn (by omega) (by omega) (by omega)) (yl_pn (by omega) (by omega) (by omega))
  have t2_E1_1 : (md_M (md_M h (md_p 4 c 1) (md_p 4 e 0)) (md_p 4 d 1) (md_p 4 (e + 2) 0)) (md_p 4 (e + 1) 1) = (md_p 4 (e + 1) 1) := md_Mk t1_E1_1 (yl_pn (by omega) (by omega) (by omega)) (yl_pn (by omega) (by omega) (by omega))
  have t3_E1_1 : (md_M (md_M (md_M h (md_p 4 c 1) (md_p 4 e 0)) (md_p 4 d 1) (md_p 4 (e + 2) 0)) (md_p 4 c 2) (md_p 4 (e + 1) 0)) (md_p 4 (e + 1) 1) = (md_p 4 (e + 1) 1) := md_Mk t2_E1_1 (yl_pn (by omega) (by omega) (by omega)) (yl_ps (by omega) (by omega) (by omega))
  have t4_E1_1 : (md_M (md_M (md_M (md_M h (md_p 4 c 1) (md_p 4 e 0)) (md_p 4 d 1) (md_p 4 (e + 2) 0)) (md_p 4 c 2) (md_p 4 (e + 1) 0)) (md_p 4 d 2) (md_p 4 (e + 3) 0)) (md_p 4 (e + 1) 1) = (md_p 4 (e + 1) 1) := md_Mk t3_E1_1 (yl_pn (by omega) (by omega) (by omega)) (yl_pn (by omega) (by omega) (by omega))
  have t5_E1_1 : (md_J (md_M (md_M (md_M (md_M h (md_p 4 c 1) (md_p 4 e 0)) (md_p 4 d 1) (md_p 4 (e + 2) 0)) (md_p 4 c 2) (md_p 4 (e + 1) 0)) (md_p 4 d 2) (md_p 4 (e + 3) 0)) (md_p 4 e 1) (md_p 4 (e + 2) 1)) (md_p 4 (e + 1) 1) = (md_p 4 (e + 1) 1) := md_Jk t4_E1_1 (yl_pn (by omega) (by omega) (by omega)) (yl_pn (by omega) (by omega) (by omega))
  have t6_E1_1 : (md_J (md_J (md_M (md_M (md_M (md_M h (md_p 4 c 1) (md_p 4 e 0)) (md_p 4 d 1) (md_p 4 (e + 2) 0)) (md_p 4 c 2) (md_p 4 (e + 1) 0)) (md_p 4 d 2) (md_p 4 (e + 3) 0)) (md_p 4 e 1) (md_p 4 (e + 2) 1)) (md_p 4 e 2) (md_p 4 (e + 3) 1)) (md_p 4 (e + 1) 1) = (md_p 4 (e + 1) 1) := md_Jk t5_E1_1 (yl_pn (by omega) (by omega) (by omega)) (yl_pn (by omega) (by omega) (by omega))
  have t0_E1_2 : h (md_p 4 (e + 1) 2) = (md_p 4 (e + 1) 2) := ht (e + 1) 2 (by omega) (by omega)
  have t1_E1_2 : (md_M h (md_p 4 c 1) (md_p 4 e 0)) (md_p 4 (e + 1) 2) = (md_p 4 (e + 1) 2) := md_Mk t0_E1_2 (yl_pn (by omega) (by omega) (by omega)) (yl_pn (by omega) (by omega) (by omega))
  have t2_E1_2 : (md_M (md_M h (md_p 4 c 1) (md_p 4 e 0)) (md_p 4 d 1) (md_p 4 (e + 2) 0)) (md_p 4 (e + 1) 2) = (md_p 4 (e + 1) 2) := md_Mk t1_E1_2 (yl_pn (by omega) (by omega) (by omega)) (yl_pn (by omega) (by omega) (by omega))
  have t3_E1_2 : (md_M (md_M (md_M h (md_p 4 c 1) (md_p 4 e 0)) (md_p 4 d 1) (md_p 4 (e + 2) 0)) (md_p 4 c 2) (md_p 4 (e + 1) 0)) (md_p 4 (e + 1) 2) = (md_p 4 (e + 1) 2) := md_Mk t2_E1_2 (yl_pn (by omega) (by omega) (by omega)) (yl_ps (by omega) (by omega) (by omega))
  have t4_E1_2 : (md_M (md_M (md_M (md_M h (md_p 4 c 1) (md_p 4 e 0)) (md_p 4 d 1) (md_p 4 (e + 2) 0)) (md_p 4 c 2) (md_p 4 (e + 1) 0)) (md_p 4 d 2) (md_p 4 (e + 3) 0)) (md_p 4 (e + 1) 2) = (md_p 4 (e + 1) 2) := md_Mk t3_E1_2 (yl_pn (by omega) (by omega) (by omega)) (yl_pn (by omega) (by omega) (by omega))
  have t5_E1_2 : (md_J (md_M (md_M (md_M (md_M h (md_p 4 c 1) (md_p 4 e 0)) (md_p 4 d 1) (md_p 4 (e + 2) 0)) (md_p 4 c 2) (md_p 4 (e + 1) 0)) (md_p 4 d 2) (md_p 4 (e + 3) 0)) (md_p 4 e 1) (md_p 4 (e + 2) 1)) (md_p 4 (e + 1) 2) = (md_p 4 (e + 1) 2) := md_Jk t4_E1_2 (yl_pn (by omega) (by omega) (by omega)) (yl_pn (by omega) (by omega) (by omega))
  have t6_E1_2 : (md_J (md_J (md_M (md_M (md_M (md_M h (md_p 4 c 1) (md_p 4 e 0)) (md_p 4 d 1) (md_p 4 (e + 2) 0)) (md_p 4 c 2) (md_p 4 (e + 1) 0)) (md_p 4 d 2) (md_p 4 (e + 3) 0)) (md_p 4 e 1) (md_p 4 (e + 2) 1)) (md_p 4 e 2) (md_p 4 (e + 3) 1)) (md_p 4 (e + 1) 2) = (md_p 4 (e + 1) 2) := md_Jk t5_E1_2 (yl_pn (by omega) (by omega) (by omega)) (yl_pn (by omega) (by omega) (by omega))
  have t7_E1_2 : (md_J (md_J (md_J (md_M (md_M (md_M (md_M h (md_p 4 c 1) (md_p 4 e 0)) (md_p 4 d 1) (md_p 4 (e + 2) 0)) (md_p 4 c 2) (md_p 4 (e + 1) 0)) (md_p 4 d 2) (md_p 4 (e + 3) 0)) (md_p 4 e 1) (md_p 4 (e + 2) 1)) (md_p 4 e 2) (md_p 4 (e + 3) 1)) (md_p 4 (e + 1) 1) (md_p 4 (e + 2) 2)) (md_p 4 (e + 1) 2) = (md_p 4 (e + 1) 2) := md_Jk t6_E1_2 (yl_ps (by omega) (by omega) (by omega)) (yl_pn (by omega) (by omega) (by omega))
  have t0_E2_0 : h (md_p 4 (e + 2) 0) = (md_p 4 (e + 2) 0) := ht (e + 2) 0 (by omega) (by omega)
  have t1_E2_0 : (md_M h (md_p 4 c 1) (md_p 4 e 0)) (md_p 4 (e + 2) 0) = (md_p 4 (e + 2) 0) := md_Mk t0_E2_0 (yl_pn (by omega) (by omega) (by omega)) (yl_pn (by omega) (by omega) (by omega))
  have t0_E2_1 : h (md_p 4 (e + 2) 1) = (md_p 4 (e + 2) 1) := ht (e + 2) 1 (by omega) (by omega)
  have t1_E2_1 : (md_M h (md_p 4 c 1) (md_p 4 e 0)) (md_p 4 (e + 2) 1) = (md_p 4 (e + 2) 1) := md_Mk t0_E2_1 (yl_pn (by omega) (by omega) (by omega)) (yl_pn (by omega) (by omega) (by omega))
  have t2_E2_1 : (md_M (md_M h (md_p 4 c 1) (md_p 4 e 0)) (md_p 4 d 1) (md_p 4 (e + 2) 0)) (md_p 4 (e + 2) 1) = (md_p 4 (e + 2) 1) := md_Mk t1_E2_1 (yl_pn (by omega) (by omega) (by omega)) (yl_ps (by omega) (by omega) (by omega))
  have t3_E2_1 : (md_M (md_M (md_M h (md_p 4 c 1) (md_p 4 e 0)) (md_p 4 d 1) (md_p 4 (e + 2) 0)) (md_p 4 c 2) (md_p 4 (e + 1) 0)) (md_p 4 (e + 2) 1) = (md_p 4 (e + 2) 1) := md_Mk t2_E2_1 (yl_pn (by omega) (by omega) (by omega)) (yl_pn (by omega) (by omega) (by omega))
  have t4_E2_1 : (md_M (md_M (md_M (md_M h (md_p 4 c 1) (md_p 4 e 0)) (md_p 4 d 1) (md_p 4 (e + 2) 0)) (md_p 4 c 2) (md_p 4 (e + 1) 0)) (md_p 4 d 2) (md_p 4 (e + 3) 0)) (md_p 4 (e + 2) 1) = (md_p 4 (e + 2) 1) := md_Mk t3_E2_1 (yl_pn (by omega) (by omega) (by omega)) (yl_pn (by omega) (by omega) (by omega))
  have t0_E2_2 : h (md_p 4 (e + 2) 2) = (md_p 4 (e + 2) 2) := ht (e + 2) 2 (by omega) (by omega)
  have t1_E2_2 : (md_M h (md_p 4 c 1) (md_p 4 e 0)) (md_p 4 (e + 2) 2) = (md_p 4 (e + 2) 2) := md_Mk t0_E2_2 (yl_pn (by omega) (by omega) (by omega)) (yl_pn (by omega) (by omega) (by omega))
  have t2_E2_2 : (md_M (md_M h (md_p 4 c 1) (md_p 4 e 0)) (md_p 4 d 1) (md_p 4 (e + 2) 0)) (md_p 4 (e + 2) 2) = (md_p 4 (e + 2) 2) := md_Mk t1_E2_2 (yl_pn (by omega) (by omega) (by omega)) (yl_ps (by omega) (by omega) (by omega))
  have t3_E2_2 : (md_M (md_M (md_M h (md_p 4 c 1) (md_p 4 e 0)) (md_p 4 d 1) (md_p 4 (e + 2) 0)) (md_p 4 c 2) (md_p 4 (e + 1) 0)) (md_p 4 (e + 2) 2) = (md_p 4 (e + 2) 2) := md_Mk t2_E2_2 (yl_pn (by omega) (by omega) (by omega)) (yl_pn (by omega) (by omega) (by omega))
  have t4_E2_2 : (md_M (md_M (md_M (md_M h (md_p 4 c 1) (md_p 4 e 0)) (md_p 4 d 1) (md_p 4 (e + 2) 0)) (md_p 4 c 2) (md_p 4 (e + 1) 0)) (md_p 4 d 2) (md_p 4 (e + 3) 0)) (md_p 4 (e + 2) 2) = (md_p 4 (e + 2) 2) := md_Mk t3_E2_2 (yl_pn (by omega) (by omega) (by omega)) (yl_pn (by omega) (by omega) (by omega))
  have t5_E2_2 : (md_J (md_M (md_M (md_M (md_M h (md_p 4 c 1) (md_p 4 e 0)) (md_p 4 d 1) (md_p 4 (e + 2) 0)) (md_p 4 c 2) (md_p 4 (e + 1) 0)) (md_p 4 d 2) (md_p 4 (e + 3) 0)) (md_p 4 e 1) (md_p 4 (e + 2) 1)) (md_p 4 (e + 2) 2) = (md_p 4 (e + 2) 2) := md_Jk t4_E2_2 (yl_pn (by omega) (by omega) (by omega)) (yl_ps (by omega) (by omega) (by omega))
  have t6_E2_2 : (md_J (md_J (md_M (md_M (md_M (md_M h (md_p 4 c 1) (md_p 4 e 0)) (md_p 4 d 1) (md_p 4 (e + 2) 0)) (md_p 4 c 2) (md_p 4 (e + 1) 0)) (md_p 4 d 2) (md_p 4 (e + 3) 0)) (md_p 4 e 1) (md_p 4 (e + 2) 1)) (md_p 4 e 2) (md_p 4 (e + 3) 1)) (md_p 4 (e + 2) 2) = (md_p 4 (e + 2) 2) := md_Jk t5_E2_2 (yl_pn (by omega) (by omega) (by omega)) (yl_pn (by omega) (by omega) (by omega))
  have t0_E3_0 : h (md_p 4 (e + 3) 0) = (md_p 4 (e + 3) 0) := ht (e + 3) 0 (by omega) (by omega)
  have t1_E3_0 : (md_M h (md_p 4 c 1) (md_p 4 e 0)) (md_p 4 (e + 3) 0) = (md_p 4 (e + 3) 0) := md_Mk t0_E3_0 (yl_pn (by omega) (by omega) (by omega)) (yl_pn (by omega) (by omega) (by omega))
  have t2_E3_0 : (md_M (md_M h (md_p 4 c 1) (md_p 4 e 0)) (md_p 4 d 1) (md_p 4 (e + 2) 0)) (md_p 4 (e + 3) 0) = (md_p 4 (e + 3) 0) := md_Mk t1_E3_0 (yl_pn (by omega) (by omega) (by omega)) (yl_pn (by omega) (by omega) (by omega))
  have t3_E3_0 : (md_M (md_M (md_M h (md_p 4 c 1) (md_p 4 e 0)) (md_p 4 d 1) (md_p 4 (e + 2) 0)) (md_p 4 c 2) (md_p 4 (e + 1) 0)) (md_p 4 (e + 3) 0) = (md_p 4 (e + 3) 0) := md_Mk t2_E3_0 (yl_pn (by omega) (by omega) (by omega)) (yl_pn (by omega) (by omega) (by omega))
  have t0_E3_1 : h (md_p 4 (e + 3) 1) = (md_p 4 (e + 3) 1) := ht (e + 3) 1 (by omega) (by omega)
  have t1_E3_1 : (md_M h (md_p 4 c 1) (md_p 4 e 0)) (md_p 4 (e + 3) 1) = (md_p 4 (e + 3) 1) := md_Mk t0_E3_1 (yl_pn (by omega) (by omega) (by omega)) (yl_pn (by omega) (by omega) (by omega))
  have t2_E3_1 : (md_M (md_M h (md_p 4 c 1) (md_p 4 e 0)) (md_p 4 d 1) (md_p 4 (e + 2) 0)) (md_p 4 (e + 3) 1) = (md_p 4 (e + 3) 1) := md_Mk t1_E3_1 (yl_pn (by omega) (by omega) (by omega)) (yl_pn (by omega) (by omega) (by omega))
  have t3_E3_1 : (md_M (md_M (md_M h (md_p 4 c 1) (md_p 4 e 0)) (md_p 4 d 1) (md_p 4 (e + 2) 0)) (md_p 4 c 2) (md_p 4 (e + 1) 0)) (md_p 4 (e + 3) 1) = (md_p 4 (e + 3) 1) := md_Mk t2_E3_1 (yl_pn (by omega) (by omega) (by omega)) (yl_pn (by omega) (by omega) (by omega))
  have t4_E3_1 : (md_M (md_M (md_M (md_M h (md_p 4 c 1) (md_p 4 e 0)) (md_p 4 d 1) (md_p 4 (e + 2) 0)) (md_p 4 c 2) (md_p 4 (e + 1) 0)) (md_p 4 d 2) (md_p 4 (e + 3) 0)) (md_p 4 (e + 3) 1) = (md_p 4 (e + 3) 1) := md_Mk t3_E3_1 (yl_pn (by omega) (by omega) (by omega)) (yl_ps (by omega) (by omega) (by omega))
  have t5_E3_1 : (md_J (md_M (md_M (md_M (md_M h (md_p 4 c 1) (md_p 4 e 0)) (md_p 4 d 1) (md_p 4 (e + 2) 0)) (md_p 4 c 2) (md_p 4 (e + 1) 0)) (md_p 4 d 2) (md_p 4 (e + 3) 0)) (md_p 4 e 1) (md_p 4 (e + 2) 1)) (md_p 4 (e + 3) 1) = (md_p 4 (e + 3) 1) := md_Jk t4_E3_1 (yl_pn (by omega) (by omega) (by omega)) (yl_pn (by omega) (by omega) (by omega))
  have t0_E3_2 : h (md_p 4 (e + 3) 2) = (md_p 4 (e + 3) 2) := ht (e + 3) 2 (by omega) (by omega)
  have t1_E3_2 : (md_M h (md_p 4 c 1) (md_p 4 e 0)) (md_p 4 (e + 3) 2) = (md_p 4 (e + 3) 2) := md_Mk t0_E3_2 (yl_pn (by omega) (by omega) (by omega)) (yl_pn (by omega) (by omega) (by omega))
  have t2_E3_2 : (md_M (md_M h (md_p 4 c 1) (md_p 4 e 0)) (md_p 4 d 1) (md_p 4 (e + 2) 0)) (md_p 4 (e + 3) 2) = (md_p 4 (e + 3) 2) := md_Mk t1_E3_2 (yl_pn (by omega) (by omega) (by omega)) (yl_pn (by omega) (by omega) (by omega))
  have t3_E3_2 : (md_M (md_M (md_M h (md_p 4 c 1) (md_p 4 e 0)) (md_p 4 d 1) (md_p 4 (e + 2) 0)) (md_p 4 c 2) (md_p 4 (e + 1) 0)) (md_p 4 (e + 3) 2) = (md_p 4 (e + 3) 2) := md_Mk t2_E3_2 (yl_pn (by omega) (by omega) (by omega)) (yl_pn (by omega) (by omega) (by omega))
  have t4_E3_2 : (md_M (md_M (md_M (md_M h (md_p 4 c 1) (md_p 4 e 0)) (md_p 4 d 1) (md_p 4 (e + 2) 0)) (md_p 4 c 2) (md_p 4 (e + 1) 0)) (md_p 4 d 2) (md_p 4 (e + 3) 0)) (md_p 4 (e + 3) 2) = (md_p 4 (e + 3) 2) := md_Mk t3_E3_2 (yl_pn (by omega) (by omega) (by omega)) (yl_ps (by omega) (by omega) (by omega))
  have t5_E3_2 : (md_J (md_M (md_M (md_M (md_M h (md_p 4 c 1) (md_p 4 e 0)) (md_p 4 d 1) (md_p 4 (e + 2) 0)) (md_p 4 c 2) (md_p 4 (e + 1) 0)) (md_p 4 d 2) (md_p 4 (e + 3) 0)) (md_p 4 e 1) (md_p 4 (e + 2) 1)) (md_p 4 (e + 3) 2) = (md_p 4 (e + 3) 2) := md_Jk t4_E3_2 (yl_pn (by omega) (by omega) (by omega)) (yl_pn (by omega) (by omega) (by omega))
  have t6_E3_2 : (md_J (md_J (md_M (md_M (md_M (md_M h (md_p 4 c 1) (md_p 4 e 0)) (md_p 4 d 1) (md_p 4 (e + 2) 0)) (md_p 4 c 2) (md_p 4 (e + 1) 0)) (md_p 4 d 2) (md_p 4 (e + 3) 0)) (md_p 4 e 1) (md_p 4 (e + 2) 1)) (md_p 4 e 2) (md_p 4 (e + 3) 1)) (md_p 4 (e + 3) 2) = (md_p 4 (e + 3) 2) := md_Jk t5_E3_2 (yl_pn (by omega) (by omega) (by omega)) (yl_ps (by omega) (by omega) (by omega))
  have t7_E3_2 : (md_J (md_J (md_J (md_M (md_M (md_M (md_M h (md_p 4 c 1) (md_p 4 e 0)) (md_p 4 d 1) (md_p 4 (e + 2) 0)) (md_p 4 c 2) (md_p 4 (e + 1) 0)) (md_p 4 d 2) (md_p 4 (e + 3) 0)) (md_p 4 e 1) (md_p 4 (e + 2) 1)) (md_p 4 e 2) (md_p 4 (e + 3) 1)) (md_p 4 (e + 1) 1) (md_p 4 (e + 2) 2)) (md_p 4 (e + 3) 2) = (md_p 4 (e + 3) 2) := md_Jk t6_E3_2 (yl_pn (by omega) (by omega) (by omega)) (yl_pn (by omega) (by omega) (by omega))
  have i1 : fz_I (md_M h (md_p 4 c 1) (md_p 4 e 0)) := md_Mi i0 t0_E0_0 (yl_pn (by omega) (by omega) (by omega))
  have b1 : yl_b (md_M h (md_p 4 c 1) (md_p 4 e 0)) := yl_bM b0 (yl_pb (by omega) (by omega)) (yl_pb (by omega) (by omega))
  have i2 : fz_I (md_M (md_M h (md_p 4 c 1) (md_p 4 e 0)) (md_p 4 d 1) (md_p 4 (e + 2) 0)) := md_Mi i1 t1_E2_0 (yl_pn (by omega) (by omega) (by omega))
  have b2 : yl_b (md_M (md_M h (md_p 4 c 1) (md_p 4 e 0)) (md_p 4 d 1) (md_p 4 (e + 2) 0)) := yl_bM b1 (yl_pb (by omega) (by omega)) (yl_pb (by omega) (by omega))
  have i3 : fz_I (md_M (md_M (md_M h (md_p 4 c 1) (md_p 4 e 0)) (md_p 4 d 1) (md_p 4 (e + 2) 0)) (md_p 4 c 2) (md_p 4 (e + 1) 0)) := md_Mi i2 t2_E1_0 (yl_pn (by omega) (by omega) (by omega))
  have b3 : yl_b (md_M (md_M (md_M h (md_p 4 c 1) (md_p 4 e 0)) (md_p 4 d 1) (md_p 4 (e + 2) 0)) (md_p 4 c 2) (md_p 4 (e + 1) 0)) := yl_bM b2 (yl_pb (by omega) (by omega)) (yl_pb (by omega) (by omega))
  have i4 : fz_I (md_M (md_M (md_M (md_M h (md_p 4 c 1) (md_p 4 e 0)) (md_p 4 d 1) (md_p 4 (e + 2) 0)) (md_p 4 c 2) (md_p 4 (e + 1) 0)) (md_p 4 d 2) (md_p 4 (e + 3) 0)) := md_Mi i3 t3_E3_0 (yl_pn (by omega) (by omega) (by omega))
  have b4 : yl_b (md_M (md_M (md_M (md_M h (md_p 4 c 1) (md_p 4 e 0)) (md_p 4 d 1) (md_p 4 (e + 2) 0)) (md_p 4 c 2) (md_p 4 (e + 1) 0)) (md_p 4 d 2) (md_p 4 (e + 3) 0)) := yl_bM b3 (yl_pb (by omega) (by omega)) (yl_pb (by omega) (by omega))
  have cm : (md_M (md_M (md_M h (md_p 4 c 1) (md_p 4 e 0)) (md_p 4 d 1) (md_p 4 (e + 2) 0)) (md_p 4 c 2) (md_p 4 (e + 1) 0)) = (md_M (md_M (md_M h (md_p 4 c 1) (md_p 4 e 0)) (md_p 4 c 2) (md_p 4 (e + 1) 0)) (md_p 4 d 1) (md_p 4 (e + 2) 0)) := md_Mc i1 t1_E2_0 t1_E1_0 (yl_pn (by omega) (by omega) (by omega)) (yl_pn (by omega) (by omega) (by omega)) (yl_pn (by omega) (by omega) (by omega)) (yl_pn (by omega) (by omega) (by omega)) (yl_pn (by omega) (by omega) (by omega)) (yl_pn (by omega) (by omega) (by omega))
  unfold wpY_copyEachOther
  dsimp only
  refine yl_mk (by omega) rfl ?_
  dsimp only
  refine yl_mk (e := e + 1) (by omega) rfl ?_
  dsimp only
  refine yl_mk (e := e + 2) (by omega) rfl ?_
  dsimp only
  refine yl_mk (e := e + 3) (by omega) rfl ?_
  dsimp only
  refine ⟨0 + 1 + 1 + 1, ?_⟩
  refine br_f (by decide) ?_
  refine yl_po (s := 1) ?_
  refine yl_po (s := 1) ?_
  refine br_t rfl ?_
  unfold wY_copyEachOther_67
  refine yl_po (s := 0) ?_
  refine br_t rfl ?_
  unfold wY_copyEachOther_87
  refine yl_po (s := 0) ?_
  refine yl_mv (by omega) W i0 (yl_pb (by omega) (by omega)) (yl_pb (by omega) (by omega)) t0_E0_0 (fun rf1 rs1 W1 => ?_)
  dsimp only
  refine yl_mv (by omega) W1 i1 (yl_pb (by omega) (by omega)) (yl_pb (by omega) (by omega)) t1_E2_0 (fun rf2 rs2 W2 => ?_)
  dsimp only
  refine nm_r (show (1 : Int32) + 1 = 2 by decide) ?_
  refine br_f (by decide) ?_
  refine yl_po (s := 2) ?_
  refine yl_po (s := 2) ?_
  refine br_f (by decide) ?_
  unfold wY_copyEachOther_67
  refine yl_po (s := 0) ?_
  refine br_f (by decide) ?_
  unfold wY_copyEachOther_87
  refine yl_po (s := 0) ?_
  refine yl_mv (by omega) W2 i2 (yl_pb (by omega) (by omega)) (yl_pb (by omega) (by omega)) t2_E1_0 (fun rf3 rs3 W3 => ?_)
  dsimp only
  refine yl_mv (by omega) W3 i3 (yl_pb (by omega) (by omega)) (yl_pb (by omega) (by omega)) t3_E3_0 (fun rf4 rs4 W4 => ?_)
  dsimp only
  refine nm_r (show (2 : Int32) + 1 = 3 by decide) ?_
  refine br_t (by decide) ?_
  refine yl_po (s := 1) ?_
  refine yl_po (s := 1) ?_
  refine yl_po (s := 1) ?_
  refine yl_po (s := 1) ?_
  rw [yl_r2, yl_r2, yl_r2, yl_r2]
  refine yl_aw (m := m + 0) (by omega) W4 t4_E0_1 t4_E2_1 (yl_pn (by omega) (by omega) (by omega)) (yl_pb (by omega) (by omega)) (yl_pb (by omega) (by omega)) (fun rf5 rs5 W5 => ?_)
  dsimp only
  refine yl_aw (m := m + 1) (by omega) W5 t5_E0_2 t5_E3_1 (yl_pn (by omega) (by omega) (by omega)) (yl_pb (by omega) (by omega)) (yl_pb (by omega) (by omega)) (fun rf6 rs6 W6 => ?_)
  dsimp only
  refine yl_aw (m := m + 2) (by omega) W6 t6_E1_1 t6_E2_2 (yl_pn (by omega) (by omega) (by omega)) (yl_pb (by omega) (by omega)) (yl_pb (by omega) (by omega)) (fun rf7 rs7 W7 => ?_)
  dsimp only
  refine yl_aw (m := m + 3) (by omega) W7 t7_E1_2 t7_E3_2 (yl_pn (by omega) (by omega) (by omega)) (yl_pb (by omega) (by omega)) (yl_pb (by omega) (by omega)) (fun rf8 rs8 W8 => ?_)
  rw [cm] at W8
  exact H rf8 rs8 W8
end
