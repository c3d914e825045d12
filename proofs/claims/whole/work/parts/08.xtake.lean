/-! the component's step -/
theorem md_p0 (c : Nat) : md_p 0 c 0 = 3 * c := by unfold md_p; omega
theorem xl_q0 (c : Nat) : (3 : Int32) * nI c = nI (md_p 0 c 0) := by rw [xl_3, md_p0]
theorem xl_q1 (c : Nat) : (3 : Int32) * nI c + 1 = nI (md_p 0 c 1) := by rw [xl_3, xl_a1]; congr 1; unfold md_p; omega
theorem xl_q2 (c : Nat) : (3 : Int32) * nI c + 2 = nI (md_p 0 c 2) := by rw [xl_3, xl_a2]; congr 1; unfold md_p; omega
theorem xl_r1 (c : Nat) : nI (md_p 0 c 0) + 1 = nI (md_p 0 c 1) := by rw [xl_a1]; rfl
theorem xl_r2 (c : Nat) : nI (md_p 0 c 0) + 2 = nI (md_p 0 c 2) := by rw [xl_a2]; rfl
theorem xl_pb {c s : Nat} (hc : c < 492) (hs : s < 3) : md_p 0 c s < 1476 := by unfold md_p; omega
theorem md_Mi {h : Nat → Nat} {p t : Nat} (hi : fz_I h) (htt : h t = t) (hpt : p ≠ t) : fz_I (md_M h p t) := by
  intro x
  have hx := hi x
  have hp := hi p
  unfold md_M
  grind
theorem md_Mk {h : Nat → Nat} {p t x : Nat} (hx : h x = x) (h1 : x ≠ p) (h2 : x ≠ t) : md_M h p t x = x := by
  unfold md_M
  rw [if_neg h1, if_neg h2, hx, if_neg h1]
def xl_b (h : Nat → Nat) : Prop := ∀ x, x < 1476 → h x < 1476
theorem xl_bF {h : Nat → Nat} (H : xl_b h) {p q : Nat} (hp : p < 1476) (hq : q < 1476) : xl_b (fz_F h p q) := by
  intro x hx
  have a := H x hx
  have b := H p hp
  have c := H q hq
  unfold fz_F
  repeat' split
  all_goals assumption
theorem xl_bM {h : Nat → Nat} (H : xl_b h) {p t : Nat} (hp : p < 1476) (ht : t < 1476) : xl_b (md_M h p t) := by
  intro x hx
  have a := H x hx
  have b := H p hp
  unfold md_M
  repeat' split
  all_goals assumption
theorem xl_pn {c s c' s' : Nat} (hs : s < 3) (hs' : s' < 3) (h : c ≠ c') : md_p 0 c s ≠ md_p 0 c' s' := fun z => h ((md_pe hs hs').mp z).1
theorem xl_ps {c s s' : Nat} (hs : s < 3) (hs' : s' < 3) (h : s ≠ s') : md_p 0 c s ≠ md_p 0 c s' := fun z => h ((md_pe hs hs').mp z).2
section
variable {fc fe fs fl fr : Int32} {ak aw rk rw ir re : Nat → Int32}
theorem xl_er {post : SX → Prop} {h : Nat → Nat} {p e : Nat} (he : e + 1 < 492) (hp : p < e) (W : xl_W rw h) (hi : fz_I h) (hb : xl_b h) (t0 : h (md_p 0 e 0) = md_p 0 e 0) (t1 : h (md_p 0 (e + 1) 0) = md_p 0 (e + 1) 0)
    (H : ∀ rw', xl_W rw' (md_M (md_M h (md_p 0 p 1) (md_p 0 e 0)) (md_p 0 p 2) (md_p 0 (e + 1) 0)) → post (fc, nI (e + 2), fs, fl, fr, ak, aw, upd (upd rk e 2) (e + 1) 2, rw', ir, re)) :
    wpX_erase post (fc, nI e, fs, fl, fr, ak, aw, rk, rw, ir, re) (nI p) := by
  unfold wpX_erase
  dsimp only
  rw [xl_q1, xl_q2]
  refine xl_pi (by omega) rfl ?_
  dsimp only
  refine xl_pi (e := e + 1) (by omega) rfl ?_
  dsimp only
  rw [xl_q0, xl_q0]
  refine xl_mv (xl_pb (by omega) (by omega)) (xl_pb (by omega) (by omega)) W hi (xl_pn (by omega) (by omega) (by omega)) t0 (hb _ (xl_pb (by omega) (by omega))) (fun rw1 W1 => ?_)
  dsimp only
  refine xl_mv (xl_pb (by omega) (by omega)) (xl_pb (by omega) (by omega)) W1 (md_Mi hi t0 (xl_pn (by omega) (by omega) (by omega))) (xl_pn (by omega) (by omega) (by omega)) (md_Mk t1 (xl_pn (by omega) (by omega) (by omega)) (xl_pn (by omega) (by omega) (by omega))) (xl_bM hb (xl_pb (by omega) (by omega)) (xl_pb (by omega) (by omega)) _ (xl_pb (by omega) (by omega))) (fun rw2 W2 => ?_)
  exact H rw2 W2
theorem xl_cp {post : SX → Prop} {h : Nat → Nat} {c d e : Nat} (he : e + 3 < 492) (hc : c < e) (hd : d < e) (hcd : c ≠ d) (W : xl_W rw h) (hi : fz_I h) (hb : xl_b h) (ht : ∀ t s, e ≤ t → s < 3 → h (md_p 0 t s) = md_p 0 t s)
    (H : ∀ rw', xl_W rw' (md_J (md_J (md_J (md_J (md_M (md_M (md_M (md_M h (md_p 0 c 1) (md_p 0 e 0)) (md_p 0 c 2) (md_p 0 (e + 1) 0)) (md_p 0 d 1) (md_p 0 (e + 2) 0)) (md_p 0 d 2) (md_p 0 (e + 3) 0)) (md_p 0 e 1) (md_p 0 (e + 2) 1)) (md_p 0 e 2) (md_p 0 (e + 3) 1)) (md_p 0 (e + 1) 1) (md_p 0 (e + 2) 2)) (md_p 0 (e + 1) 2) (md_p 0 (e + 3) 2)) → post (fc, nI (e + 4), fs, fl, fr, ak, aw, upd (upd (upd (upd rk e 1) (e + 1) 1) (e + 2) 0) (e + 3) 0, rw', ir, re)) :
    wpX_copyEachOther post (fc, nI e, fs, fl, fr, ak, aw, rk, rw, ir, re) (nI c) (nI d) := by
  unfold wpX_copyEachOther
  dsimp only
  rw [xl_q1, xl_q2, xl_q1, xl_q2]
  refine xl_pi (by omega) rfl ?_
  dsimp only
  refine xl_pi (e := e + 1) (by omega) rfl ?_
  dsimp only
  refine xl_pi (e := e + 2) (by omega) rfl ?_
  dsimp only
  refine xl_pi (e := e + 3) (by omega) rfl ?_
  dsimp only
  rw [xl_q1 e, xl_q1 (e + 1), xl_q1 (e + 2), xl_q1 (e + 3), xl_q2 e, xl_q2 (e + 1), xl_q2 (e + 2), xl_q2 (e + 3), xl_q0 e, xl_q0 (e + 1), xl_q0 (e + 2), xl_q0 (e + 3)]
  have i0 : fz_I h := hi
  have b0 : xl_b h := hb
  have t0_0 : h (md_p 0 e 0) = md_p 0 e 0 := ht e 0 (by omega) (by omega)
  have t0_1 : h (md_p 0 (e + 1) 0) = md_p 0 (e + 1) 0 := ht (e + 1) 0 (by omega) (by omega)
  have t1_1 : (md_M h (md_p 0 c 1) (md_p 0 e 0)) (md_p 0 (e + 1) 0) = md_p 0 (e + 1) 0 := md_Mk t0_1 (xl_pn (by omega) (by omega) (by omega)) (xl_pn (by omega) (by omega) (by omega))
  have t0_2 : h (md_p 0 (e + 2) 0) = md_p 0 (e + 2) 0 := ht (e + 2) 0 (by omega) (by omega)
  have t1_2 : (md_M h (md_p 0 c 1) (md_p 0 e 0)) (md_p 0 (e + 2) 0) = md_p 0 (e + 2) 0 := md_Mk t0_2 (xl_pn (by omega) (by omega) (by omega)) (xl_pn (by omega) (by omega) (by omega))
  have t2_2 : (md_M (md_M h (md_p 0 c 1) (md_p 0 e 0)) (md_p 0 c 2) (md_p 0 (e + 1) 0)) (md_p 0 (e + 2) 0) = md_p 0 (e + 2) 0 := md_Mk t1_2 (xl_pn (by omega) (by omega) (by omega)) (xl_pn (by omega) (by omega) (by omega))
  have t0_3 : h (md_p 0 (e + 3) 0) = md_p 0 (e + 3) 0 := ht (e + 3) 0 (by omega) (by omega)
  have t1_3 : (md_M h (md_p 0 c 1) (md_p 0 e 0)) (md_p 0 (e + 3) 0) = md_p 0 (e + 3) 0 := md_Mk t0_3 (xl_pn (by omega) (by omega) (by omega)) (xl_pn (by omega) (by omega) (by omega))
  have t2_3 : (md_M (md_M h (md_p 0 c 1) (md_p 0 e 0)) (md_p 0 c 2) (md_p 0 (e + 1) 0)) (md_p 0 (e + 3) 0) = md_p 0 (e + 3) 0 := md_Mk t1_3 (xl_pn (by omega) (by omega) (by omega)) (xl_pn (by omega) (by omega) (by omega))
  have t3_3 : (md_M (md_M (md_M h (md_p 0 c 1) (md_p 0 e 0)) (md_p 0 c 2) (md_p 0 (e + 1) 0)) (md_p 0 d 1) (md_p 0 (e + 2) 0)) (md_p 0 (e + 3) 0) = md_p 0 (e + 3) 0 := md_Mk t2_3 (xl_pn (by omega) (by omega) (by omega)) (xl_pn (by omega) (by omega) (by omega))
  have i1 : fz_I (md_M h (md_p 0 c 1) (md_p 0 e 0)) := md_Mi i0 t0_0 (xl_pn (by omega) (by omega) (by omega))
  have b1 : xl_b (md_M h (md_p 0 c 1) (md_p 0 e 0)) := xl_bM b0 (xl_pb (by omega) (by omega)) (xl_pb (by omega) (by omega))
  have i2 : fz_I (md_M (md_M h (md_p 0 c 1) (md_p 0 e 0)) (md_p 0 c 2) (md_p 0 (e + 1) 0)) := md_Mi i1 t1_1 (xl_pn (by omega) (by omega) (by omega))
  have b2 : xl_b (md_M (md_M h (md_p 0 c 1) (md_p 0 e 0)) (md_p 0 c 2) (md_p 0 (e + 1) 0)) := xl_bM b1 (xl_pb (by omega) (by omega)) (xl_pb (by omega) (by omega))
  have i3 : fz_I (md_M (md_M (md_M h (md_p 0 c 1) (md_p 0 e 0)) (md_p 0 c 2) (md_p 0 (e + 1) 0)) (md_p 0 d 1) (md_p 0 (e + 2) 0)) := md_Mi i2 t2_2 (xl_pn (by omega) (by omega) (by omega))
  have b3 : xl_b (md_M (md_M (md_M h (md_p 0 c 1) (md_p 0 e 0)) (md_p 0 c 2) (md_p 0 (e + 1) 0)) (md_p 0 d 1) (md_p 0 (e + 2) 0)) := xl_bM b2 (xl_pb (by omega) (by omega)) (xl_pb (by omega) (by omega))
  have i4 : fz_I (md_M (md_M (md_M (md_M h (md_p 0 c 1) (md_p 0 e 0)) (md_p 0 c 2) (md_p 0 (e + 1) 0)) (md_p 0 d 1) (md_p 0 (e + 2) 0)) (md_p 0 d 2) (md_p 0 (e + 3) 0)) := md_Mi i3 t3_3 (xl_pn (by omega) (by omega) (by omega))
  have b4 : xl_b (md_M (md_M (md_M (md_M h (md_p 0 c 1) (md_p 0 e 0)) (md_p 0 c 2) (md_p 0 (e + 1) 0)) (md_p 0 d 1) (md_p 0 (e + 2) 0)) (md_p 0 d 2) (md_p 0 (e + 3) 0)) := xl_bM b3 (xl_pb (by omega) (by omega)) (xl_pb (by omega) (by omega))
  refine xl_mv (xl_pb (by omega) (by omega)) (xl_pb (by omega) (by omega)) W i0 (xl_pn (by omega) (by omega) (by omega)) t0_0 (b0 _ (xl_pb (by omega) (by omega))) (fun rw1 W1 => ?_)
  dsimp only
  refine xl_mv (xl_pb (by omega) (by omega)) (xl_pb (by omega) (by omega)) W1 i1 (xl_pn (by omega) (by omega) (by omega)) t1_1 (b1 _ (xl_pb (by omega) (by omega))) (fun rw2 W2 => ?_)
  dsimp only
  refine xl_mv (xl_pb (by omega) (by omega)) (xl_pb (by omega) (by omega)) W2 i2 (xl_pn (by omega) (by omega) (by omega)) t2_2 (b2 _ (xl_pb (by omega) (by omega))) (fun rw3 W3 => ?_)
  dsimp only
  refine xl_mv (xl_pb (by omega) (by omega)) (xl_pb (by omega) (by omega)) W3 i3 (xl_pn (by omega) (by omega) (by omega)) t3_3 (b3 _ (xl_pb (by omega) (by omega))) (fun rw4 W4 => ?_)
  dsimp only
  refine xl_pj (xl_pb (by omega) (by omega)) (xl_pb (by omega) (by omega)) W4 (xl_pn (by omega) (by omega) (by omega)) (fun rw5 W5 => ?_)
  dsimp only
  refine xl_pj (xl_pb (by omega) (by omega)) (xl_pb (by omega) (by omega)) W5 (xl_pn (by omega) (by omega) (by omega)) (fun rw6 W6 => ?_)
  dsimp only
  refine xl_pj (xl_pb (by omega) (by omega)) (xl_pb (by omega) (by omega)) W6 (xl_pn (by omega) (by omega) (by omega)) (fun rw7 W7 => ?_)
  dsimp only
  refine xl_pj (xl_pb (by omega) (by omega)) (xl_pb (by omega) (by omega)) W7 (xl_pn (by omega) (by omega) (by omega)) (fun rw8 W8 => ?_)
  exact H rw8 W8
end
theorem md_Rh {o : Nat} {E : Nat → Prop} {U : Nat → Nat} {e : Nat} {rk : Nat → Int32} {h g : Nat → Nat} {N : fz_N} (R : md_R o E U e rk h g N) : fz_I h := by
  have hB := md_Bok R (g' := g) (k := 0) (fun c _ => rfl) (fun c h1 h2 => by omega)
  obtain ⟨ok, ⟨k6, k7⟩, r1, r2, r3, r4, r5, r6⟩ := R
  exact md_hi hB (md_DB e 0 rk) ok.1 r6
/-- nothing faces at the middle level: the net is at rest -/
theorem md_no {o : Nat} {E : Nat → Prop} {U : Nat → Nat} {e : Nat} {rk : Nat → Int32} {h g : Nat → Nat} {N : fz_N} (R : md_R o E U e rk h g N)
    (H : ∀ c c', c < e → c' < e → rk c ≠ -1 → rk c' ≠ -1 → c ≠ c' → h (md_p o c 0) ≠ md_p o c' 0) : fz_no N := by
  have hB := md_Bok R (g' := g) (k := 0) (fun c _ => rfl) (fun c h1 h2 => by omega)
  obtain ⟨ok, ⟨k6, k7⟩, r1, r2, r3, r4, r5, r6⟩ := R
  intro A B ac
  obtain ⟨c, c1, c2, rfl⟩ := r2 A ac.1
  obtain ⟨c', d1, d2, rfl⟩ := r2 B ac.2.1
  refine H c c' c1 d1 c2 d2 (fun z => ac.2.2.1 (z ▸ rfl)) ?_
  have dd : ∀ c, c < e → rk c ≠ -1 → md_D o E (md_v e rk) (md_p o c 0) := by
    intro c h1 h2
    have l : N.1 (g c) ≠ -1 := by rw [r1 c h1 h2]; exact h2
    have k3 := (ok.2 _ l).2.1
    rw [r1 c h1 h2] at k3
    refine md_Dp ?_ (by omega)
    unfold md_v
    rw [if_pos h1]
    rcases k3 with z | z | z <;> rw [z] <;> decide
  have Dc := dd c c1 c2
  have q := r6.1 _ Dc
  refine hB.1 _ _ (md_DB e 0 rk _ q.1) (md_DB e 0 rk _ (dd c' d1 d2)) ?_
  rw [← q.2, md_Pp (by omega), md_Pp (by omega)]
  exact ac.2.2.2
def xl_E (p : Nat) : Prop := 30 ≤ p ∧ p ≤ 33
def xl_U (p : Nat) : Nat := 6 * (16 + p / 3) + p % 3
def xl_R (n : Nat) (N : fz_N) (e l : Nat) (rk rw : Nat → Int32) (h g : Nat → Nat) : Prop := md_R 0 xl_E xl_U e rk h g N ∧ xl_W rw h ∧ N.2.2 = l + n ∧ 12 ≤ e ∧ e ≤ 12 + 4 * n
theorem xl_Rb {n : Nat} {N : fz_N} {e l : Nat} {rk rw : Nat → Int32} {h g : Nat → Nat} (R : xl_R n N e l rk rw h g) (hn : n ≤ 120) : xl_b h := by
  intro x hx
  have r6 := R.1.2.2.2.2.2.2.2
  by_cases d : md_D 0 xl_E (md_v e rk) x
  · have q := md_DB e 0 rk _ (r6.1 x d).1
    have h2 := R.2.2.2.2
    unfold xl_E at q
    omega
  · rw [r6.2 x d]
    exact hx
theorem xl_Rt {n : Nat} {N : fz_N} {e l : Nat} {rk rw : Nat → Int32} {h g : Nat → Nat} (R : xl_R n N e l rk rw h g) : ∀ t s, e ≤ t → s < 3 → h (md_p 0 t s) = md_p 0 t s := by
  intro t s ht hs
  have r6 := R.1.2.2.2.2.2.2.2
  refine r6.2 _ (fun z => ?_)
  have q := md_DB e 0 rk _ z
  have h1 := R.2.2.2.1
  unfold xl_E md_p at q
  omega
theorem md_uc {rk : Nat → Int32} {a b : Nat} (h : a ≠ b) : upd (upd rk b (-1)) a (-1) = upd (upd rk a (-1)) b (-1) := by
  funext x
  unfold upd
  by_cases c1 : x = a <;> by_cases c2 : x = b <;> simp only [c1, c2, if_true, if_false] <;> split <;> rfl
section
variable {fc fe fs fl fr : Int32} {ak aw rk rw ir re : Nat → Int32}
theorem xl_st {post : SX → Prop} {n : Nat} {N : fz_N} {e l : Nat} {h g : Nat → Nat} (R : xl_R n N e l rk rw h g) (hn : n < 120) {a b : Nat} (ha : a < e) (hb : b < e) (la : rk a ≠ -1) (lb : rk b ≠ -1) (hab : a ≠ b)
    (hh : h (md_p 0 a 0) = md_p 0 b 0)
    (H : ∀ e' l' rk' rw' h' g', xl_R (n + 1) (fz_st N (g a) (g b)) e' l' rk' rw' h' g' → post (fc, nI e', fs, nI l', fr, ak, aw, rk', rw', ir, re)) :
    wpX_takeStep post (fc, nI e, fs, nI l, fr, ak, aw, rk, rw, ir, re) (nI a) := by
  have R0 := R
  obtain ⟨M, W, eL, e12, e4⟩ := R
  have hbd := xl_Rb R0 (by omega)
  have hi := md_Rh M
  have hfr := xl_Rt R0
  have nba : b ≠ a := fun z => hab z.symm
  have hh' : h (md_p 0 b 0) = md_p 0 a 0 := by rw [← hh]; exact hi _
  obtain ⟨AC, k3a, k3b⟩ := md_face M ha hb la lb hab hh
  have pab : md_p 0 a 0 ≠ md_p 0 b 0 := xl_pn (by omega) (by omega) hab
  have pba : md_p 0 b 0 ≠ md_p 0 a 0 := fun z => pab z.symm
  unfold wpX_takeStep
  dsimp only
  rw [xl_q0, nI_clamp (show md_p 0 a 0 < 2 ^ 31 by unfold md_p; omega), nI_clamp (show a < 2 ^ 31 by omega), W _ (xl_pb (by omega) (by omega)), hh, md_fo_n pba, md_p0 b]
  have e3 : nI (3 * b) / 3 = nI b := by
    have := pk_div (a := 3 * b) (d := 3) (by omega) (by omega) (by omega)
    rw [show 3 * b / 3 = b by omega] at this
    exact this
  rw [e3]
  refine ⟨vp_in_nI (xl_pb (by omega) (by omega)) (by omega), by decide, nm_e ⟨vp_in_nI (by omega) (by omega), nm_e ⟨vp_in_nI (by omega) (by omega), ?_⟩⟩⟩
  rw [nI_clamp (show b < 2 ^ 31 by omega)]
  refine nm_e ?_
  refine xl_to (by omega) ?_
  dsimp only
  refine xl_to (by omega) ?_
  dsimp only
  rw [← md_p0 a, ← md_p0 b]
  have W1 : xl_W (upd (upd rw (md_p 0 a 0) (-1)) (md_p 0 b 0) (-1)) (fz_F h (md_p 0 a 0) (md_p 0 b 0)) := xl_Wl W hi pab hh
  have i1 : fz_I (fz_F h (md_p 0 a 0) (md_p 0 b 0)) := fz_inv hi pab
  have b1 : xl_b (fz_F h (md_p 0 a 0) (md_p 0 b 0)) := xl_bF hbd (xl_pb (by omega) (by omega)) (xl_pb (by omega) (by omega))
  have es : fz_F h (md_p 0 b 0) (md_p 0 a 0) = fz_F h (md_p 0 a 0) (md_p 0 b 0) := funext (fz_symm hi pba)
  have eu := md_uc (rk := rk) hab
  have fr1 : ∀ t s, e ≤ t → s < 3 → fz_F h (md_p 0 a 0) (md_p 0 b 0) (md_p 0 t s) = md_p 0 t s := fun t s ht hs => md_FK (hfr t s ht hs) (xl_pn hs (by omega) (by omega)) (xl_pn hs (by omega) (by omega)) (xl_pn hs (by omega) (by omega)) (xl_pn hs (by omega) (by omega))
  by_cases ck : rk a = rk b
  · refine br_t ck ?_
    by_cases c2 : rk a = 2
    · refine br_t c2 ?_
      have q := md_s0 M ha hb la lb hab hh c2 (ck ▸ c2)
      exact H _ _ _ _ _ _ ⟨q.1, W1, by rw [q.2, eL]; omega, e12, by omega⟩
    · refine br_f c2 ?_
      have q := md_s1 M ha hb la lb hab hh ck c2
      rw [xl_r1 a, xl_q1 b, xl_r2 a, xl_q2 b]
      refine xl_fu (xl_pb (by omega) (by omega)) (xl_pb (by omega) (by omega)) W1 i1 (xl_pn (by omega) (by omega) hab) (b1 _ (xl_pb (by omega) (by omega))) (b1 _ (xl_pb (by omega) (by omega))) rfl (fun rw2 W2 => ?_)
      dsimp only
      have i2 : fz_I (fz_F (fz_F h (md_p 0 a 0) (md_p 0 b 0)) (md_p 0 a 1) (md_p 0 b 1)) := fz_inv i1 (xl_pn (by omega) (by omega) hab)
      have b2 : xl_b (fz_F (fz_F h (md_p 0 a 0) (md_p 0 b 0)) (md_p 0 a 1) (md_p 0 b 1)) := xl_bF b1 (xl_pb (by omega) (by omega)) (xl_pb (by omega) (by omega))
      refine xl_fu (xl_pb (by omega) (by omega)) (xl_pb (by omega) (by omega)) W2 i2 (xl_pn (by omega) (by omega) hab) (b2 _ (xl_pb (by omega) (by omega))) (b2 _ (xl_pb (by omega) (by omega))) rfl (fun rw3 W3 => ?_)
      exact H _ _ _ _ _ _ ⟨q.1, W3, by rw [q.2, eL]; omega, e12, by omega⟩
  · refine br_f ck ?_
    by_cases ca : rk a = 2
    · refine br_t ca ?_
      have cb : rk b ≠ 2 := fun z => ck (ca.trans z.symm)
      obtain ⟨g', q1, q2⟩ := md_er M hb ha lb la nba hh' cb ca
      rw [es, eu, fz_st_sym M.1 (fz_acs M.1 AC)] at q1
      rw [fz_st_sym M.1 (fz_acs M.1 AC)] at q2
      refine xl_er (by omega) hb W1 i1 b1 (fr1 e 0 (by omega) (by omega)) (fr1 (e + 1) 0 (by omega) (by omega)) (fun rw2 W2 => ?_)
      exact H _ _ _ _ _ _ ⟨q1, W2, by rw [q2, eL]; omega, by omega, by omega⟩
    · refine br_f ca ?_
      by_cases cb : rk b = 2
      · refine br_t cb ?_
        obtain ⟨g', q1, q2⟩ := md_er M ha hb la lb hab hh ca cb
        refine xl_er (by omega) ha W1 i1 b1 (fr1 e 0 (by omega) (by omega)) (fr1 (e + 1) 0 (by omega) (by omega)) (fun rw2 W2 => ?_)
        exact H _ _ _ _ _ _ ⟨q1, W2, by rw [q2, eL]; omega, by omega, by omega⟩
      · refine br_f cb ?_
        by_cases c0 : rk a = 0
        · refine br_t c0 ?_
          have c1 : rk b = 1 := by
            rcases k3b with z | z | z
            · exact absurd (c0.trans z.symm) ck
            · exact z
            · exact absurd z cb
          obtain ⟨g', q1, q2⟩ := md_cp M ha hb la lb hab hh c0 c1
          refine xl_cp (by omega) ha hb hab W1 i1 b1 fr1 (fun rw2 W2 => ?_)
          exact H _ _ _ _ _ _ ⟨q1, W2, by rw [q2, eL]; omega, by omega, by omega⟩
        · refine br_f c0 ?_
          have c1 : rk a = 1 := by
            rcases k3a with z | z | z
            · exact absurd z c0
            · exact z
            · exact absurd z ca
          have d0 : rk b = 0 := by
            rcases k3b with z | z | z
            · exact z
            · exact absurd (c1.trans z.symm) ck
            · exact absurd z cb
          obtain ⟨g', q1, q2⟩ := md_cp M hb ha lb la nba hh' d0 c1
          rw [es, eu, fz_st_sym M.1 (fz_acs M.1 AC)] at q1
          rw [fz_st_sym M.1 (fz_acs M.1 AC)] at q2
          refine xl_cp (by omega) hb ha nba W1 i1 b1 fr1 (fun rw2 W2 => ?_)
          exact H _ _ _ _ _ _ ⟨q1, W2, by rw [q2, eL]; omega, by omega, by omega⟩
end
