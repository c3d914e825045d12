/-! the component's own methods over the middle level -/
theorem xl_nm1 {n : Nat} (h : n < 2 ^ 31) : nI n ≠ -1 := by
  intro e
  have := nI_pos h
  rw [e] at this
  exact this (by decide)
theorem xl_3 (c : Nat) : (3 : Int32) * nI c = nI (3 * c) := pk_mul 3 c
theorem xl_a1 (c : Nat) : nI c + 1 = nI (c + 1) := nI_1 c
theorem xl_a2 (c : Nat) : nI c + 2 = nI (c + 2) := nI_add c 2
theorem md_fo_s {x : Nat} : md_fo x x = -1 := if_pos rfl
theorem md_fo_n {x q : Nat} (h : q ≠ x) : md_fo x q = nI q := if_neg h
def xl_W (rw : Nat → Int32) (h : Nat → Nat) : Prop := ∀ p, p < 1476 → rw p = md_fo p (h p)
theorem xl_Wo {rw : Nat → Int32} {h : Nat → Nat} {p t : Nat} (W : xl_W rw h) (hi : fz_I h) (htt : h t = t) (c : h p = p) : xl_W (upd rw p (-1)) (md_M h p t) := by
  intro x hx
  have e := W x hx
  have hx2 := hi x
  unfold upd md_M md_fo at *
  grind
theorem xl_Wm {rw : Nat → Int32} {h : Nat → Nat} {p t : Nat} (W : xl_W rw h) (hi : fz_I h) (hpt : p ≠ t) (htt : h t = t) (c : h p ≠ p) : xl_W (upd (upd (upd rw p (-1)) t (nI (h p))) (h p) (nI t)) (md_M h p t) := by
  intro x hx
  have e := W x hx
  have hx2 := hi x
  have hp2 := hi p
  unfold upd md_M md_fo at *
  grind
theorem xl_Wj {rw : Nat → Int32} {h : Nat → Nat} {p q : Nat} (W : xl_W rw h) (hpq : p ≠ q) : xl_W (upd (upd rw p (nI q)) q (nI p)) (md_J h p q) := by
  intro x hx
  have e := W x hx
  unfold upd md_J md_fo at *
  grind
theorem xl_Wl {rw : Nat → Int32} {h : Nat → Nat} {p q : Nat} (W : xl_W rw h) (hi : fz_I h) (hpq : p ≠ q) (c : h p = q) : xl_W (upd (upd rw p (-1)) q (-1)) (fz_F h p q) := by
  intro x hx
  have e := W x hx
  have hx2 := hi x
  have hp2 := hi p
  unfold upd fz_F md_fo at *
  grind
theorem xl_Wf0 {rw : Nat → Int32} {h : Nat → Nat} {p q : Nat} (W : xl_W rw h) (hi : fz_I h) (hpq : p ≠ q) (c : h p = p) (d : h q = q) : xl_W (upd (upd rw p (-1)) q (-1)) (fz_F h p q) := by
  intro x hx
  have e := W x hx
  have hx2 := hi x
  unfold upd fz_F md_fo at *
  grind
theorem xl_Wf1 {rw : Nat → Int32} {h : Nat → Nat} {p q : Nat} (W : xl_W rw h) (hi : fz_I h) (hpq : p ≠ q) (c : h p = p) (d : h q ≠ q) : xl_W (upd (upd (upd rw p (-1)) q (-1)) (h q) (-1)) (fz_F h p q) := by
  intro x hx
  have e := W x hx
  have hx2 := hi x
  have hq2 := hi q
  unfold upd fz_F md_fo at *
  grind
theorem xl_Wf2 {rw : Nat → Int32} {h : Nat → Nat} {p q : Nat} (W : xl_W rw h) (hi : fz_I h) (hpq : p ≠ q) (b : h p ≠ q) (c : h p ≠ p) (d : h q = q) : xl_W (upd (upd (upd rw p (-1)) q (-1)) (h p) (-1)) (fz_F h p q) := by
  intro x hx
  have e := W x hx
  have hx2 := hi x
  have hp2 := hi p
  unfold upd fz_F md_fo at *
  grind
theorem xl_Wf3 {rw : Nat → Int32} {h : Nat → Nat} {p q : Nat} (W : xl_W rw h) (hi : fz_I h) (hpq : p ≠ q) (b : h p ≠ q) (c : h p ≠ p) (d : h q ≠ q) : xl_W (upd (upd (upd (upd rw p (-1)) q (-1)) (h p) (nI (h q))) (h q) (nI (h p))) (fz_F h p q) := by
  intro x hx
  have e := W x hx
  have hx2 := hi x
  have hp2 := hi p
  have hq2 := hi q
  unfold upd fz_F md_fo at *
  grind
section
variable {fc fe fs fl fr : Int32} {ak aw rk rw ir re : Nat → Int32}
theorem xl_to {post : SX → Prop} {c : Nat} (hc : c < 492) (H : post (fc, fe, fs, fl, fr, ak, aw, upd rk c (-1), upd rw (3 * c) (-1), ir, re)) :
    wpX_takeOut post (fc, fe, fs, fl, fr, ak, aw, rk, rw, ir, re) (nI c) := by
  unfold wpX_takeOut
  dsimp only
  rw [xl_3, nI_clamp (by omega), nI_clamp (by omega)]
  exact ⟨vp_in_nI hc (by omega), nm_e ⟨vp_in_nI (by omega) (by omega), nm_e H⟩⟩
theorem xl_pi {post : Int32 → SX → Prop} {e : Nat} {k : Int32} (he : e < 492) (hfe : fe = nI e) (H : post (nI e) (fc, nI (e + 1), fs, fl, fr, ak, aw, upd rk e k, rw, ir, re)) :
    wpX_putIn post (fc, fe, fs, fl, fr, ak, aw, rk, rw, ir, re) k := by
  subst hfe
  unfold wpX_putIn
  dsimp only
  rw [xl_a1, nI_clamp (by omega)]
  exact ⟨vp_in_nI he (by omega), nm_e (nm_e H)⟩
theorem xl_pw {post : SX → Prop} {p q : Nat} (hp : p < 1476) (hq : q < 1476) (H : post (fc, fe, fs, fl, fr, ak, aw, rk, upd (upd rw p (nI q)) q (nI p), ir, re)) :
    wpX_putWire post (fc, fe, fs, fl, fr, ak, aw, rk, rw, ir, re) (nI p) (nI q) := by
  unfold wpX_putWire
  dsimp only
  rw [nI_clamp (by omega), nI_clamp (by omega)]
  exact ⟨vp_in_nI hp (by omega), nm_e ⟨vp_in_nI hq (by omega), nm_e H⟩⟩
theorem xl_pj {post : SX → Prop} {h : Nat → Nat} {p q : Nat} (hp : p < 1476) (hq : q < 1476) (W : xl_W rw h) (hpq : p ≠ q) (H : ∀ rw', xl_W rw' (md_J h p q) → post (fc, fe, fs, fl, fr, ak, aw, rk, rw', ir, re)) :
    wpX_putWire post (fc, fe, fs, fl, fr, ak, aw, rk, rw, ir, re) (nI p) (nI q) := xl_pw hp hq (H _ (xl_Wj W hpq))
theorem xl_mv {post : SX → Prop} {h : Nat → Nat} {p t : Nat} (hp : p < 1476) (ht : t < 1476) (W : xl_W rw h) (hi : fz_I h) (hpt : p ≠ t) (htt : h t = t) (hb : h p < 1476)
    (H : ∀ rw', xl_W rw' (md_M h p t) → post (fc, fe, fs, fl, fr, ak, aw, rk, rw', ir, re)) :
    wpX_moveWire post (fc, fe, fs, fl, fr, ak, aw, rk, rw, ir, re) (nI p) (nI t) := by
  unfold wpX_moveWire
  dsimp only
  rw [nI_clamp (show p < 2 ^ 31 by omega), W p hp]
  refine ⟨vp_in_nI hp (by omega), nm_e ⟨vp_in_nI hp (by omega), nm_e ?_⟩⟩
  by_cases c : h p = p
  · rw [c]
    exact br_t md_fo_s (H _ (xl_Wo W hi htt c))
  · rw [md_fo_n c]
    exact br_f (xl_nm1 (by omega)) (xl_pw ht hb (H _ (xl_Wm W hi hpt htt c)))
theorem xl_fu {post : SX → Prop} {h : Nat → Nat} {p q l : Nat} (hp : p < 1476) (hq : q < 1476) (W : xl_W rw h) (hi : fz_I h) (hpq : p ≠ q) (hbp : h p < 1476) (hbq : h q < 1476) (hl : fl = nI l)
    (H : ∀ rw', xl_W rw' (fz_F h p q) → post (fc, fe, fs, nI (l + fz_L h p q), fr, ak, aw, rk, rw', ir, re)) :
    wpX_fuseWires post (fc, fe, fs, fl, fr, ak, aw, rk, rw, ir, re) (nI p) (nI q) := by
  subst hl
  unfold wpX_fuseWires
  dsimp only
  rw [nI_clamp (show p < 2 ^ 31 by omega), nI_clamp (show q < 2 ^ 31 by omega), W p hp, W q hq]
  refine ⟨vp_in_nI hp (by omega), nm_e ⟨vp_in_nI hq (by omega), nm_e ⟨vp_in_nI hp (by omega), nm_e ⟨vp_in_nI hq (by omega), nm_e ?_⟩⟩⟩⟩
  by_cases b : h p = q
  · have eL : fz_L h p q = 1 := if_pos b
    rw [eL] at H
    have e1 : md_fo p (h p) = nI q := by rw [b]; exact md_fo_n (fun z => hpq z.symm)
    refine br_t e1 ?_
    rw [xl_a1]
    exact nm_e (H _ (xl_Wl W hi hpq b))
  · have eL : fz_L h p q = 0 := if_neg b
    rw [eL] at H
    have ne1 : ¬ md_fo p (h p) = nI q := by
      by_cases c : h p = p
      · rw [c, md_fo_s]
        exact fun z => xl_nm1 (by omega) z.symm
      · rw [md_fo_n c]
        exact fun z => b ((nI_eq (by omega) (by omega)).mp z)
    refine br_f ne1 ?_
    by_cases c : h p = p
    · rw [c, md_fo_s]
      refine br_t rfl ?_
      unfold wX_fuseWires_58
      by_cases d : h q = q
      · rw [d, md_fo_s]
        exact br_t rfl (H _ (xl_Wf0 W hi hpq c d))
      · rw [md_fo_n d, nI_clamp (by omega)]
        exact br_f (xl_nm1 (by omega)) ⟨vp_in_nI hbq (by omega), nm_e (H _ (xl_Wf1 W hi hpq c d))⟩
    · rw [md_fo_n c, nI_clamp (by omega)]
      refine br_f (xl_nm1 (by omega)) ⟨vp_in_nI hbp (by omega), nm_e ?_⟩
      unfold wX_fuseWires_58
      by_cases d : h q = q
      · rw [d, md_fo_s]
        exact br_t rfl (H _ (xl_Wf2 W hi hpq b c d))
      · rw [md_fo_n d, nI_clamp (by omega)]
        exact br_f (xl_nm1 (by omega)) ⟨vp_in_nI hbq (by omega), nm_e (H _ (xl_Wf3 W hi hpq b c d))⟩
end
