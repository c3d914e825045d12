/-! the component's run -/
theorem xl_dv {p : Nat} (h : p < 2 ^ 31) : nI p / 3 = nI (p / 3) := pk_div (d := 3) h (by omega) (by omega)
theorem xl_rm {p : Nat} (h : p < 2 ^ 31) : nI p - nI p / 3 * 3 = nI (p % 3) := pk_rem (d := 3) h (by omega) (by omega)
def xl_F (rk : Nat → Int32) (h : Nat → Nat) (o e a b : Nat) : Prop := a < e ∧ b < e ∧ rk a ≠ -1 ∧ rk b ≠ -1 ∧ a ≠ b ∧ h (md_p o a 0) = md_p o b 0
section
variable {fc fs fl fr : Int32} {ak aw rk rw ir re : Nat → Int32}
theorem xl_hd {post : Int32 → Prop} {fe : Int32} {p x : Nat} (hx : p / 3 < 492) (h0 : (p = x ∨ p % 3 ≠ 0 ∨ rk (p / 3) = -1) → post 0) (h1 : p ≠ x → p % 3 = 0 → rk (p / 3) ≠ -1 → post 1) :
    wpX_isHead post (fc, fe, fs, fl, fr, ak, aw, rk, rw, ir, re) (md_fo x p) := by
  unfold wpX_isHead
  dsimp only
  by_cases c : p = x
  · rw [c, md_fo_s]
    exact br_t rfl (h0 (Or.inl c))
  · rw [md_fo_n c, xl_rm (by omega), xl_dv (by omega), nI_clamp (by omega)]
    refine br_f (xl_nm1 (by omega)) ⟨by decide, ?_⟩
    by_cases d : p % 3 = 0
    · rw [d]
      refine br_t nI_0 ⟨by decide, vp_in_nI hx (by omega), ?_⟩
      by_cases z : rk (p / 3) = -1
      · exact br_t z (h0 (Or.inr (Or.inr z)))
      · exact br_f z (h1 c d z)
    · exact br_f (nI_ne0 (by omega) (by omega)) (h0 (Or.inr (Or.inl d)))
theorem xl_fc {post : Int32 → Prop} {n : Nat} {N : fz_N} {e l : Nat} {h g : Nat → Nat} (R : xl_R n N e l rk rw h g) (hn : n ≤ 120) (h1 : fz_no N → post (-1)) (h2 : ∀ a b, xl_F rk h 0 e a b → post (nI a)) :
    wpX_facingCell post (fc, nI e, fs, nI l, fr, ak, aw, rk, rw, ir, re) := by
  have e4 := R.2.2.2.2
  have hb := xl_Rb R hn
  have key : ∀ d i, i + d = e → (∀ c c', c < i → c' < e → rk c ≠ -1 → rk c' ≠ -1 → c ≠ c' → h (md_p 0 c 0) ≠ md_p 0 c' 0) → wX_facingCell_2 post fc (nI e) fs (nI l) fr ak aw rk rw ir re (d + 1) (nI i) := by
    intro d
    induction d with
    | zero =>
      intro i hi hq
      refine br_t (nI_le (by omega) (by omega)) (h1 (md_no R.1 (fun c c' q1 q2 => hq c c' (by omega) q2)))
    | succ d ih =>
      intro i hi hq
      refine br_f (nI_ge (by omega) (by omega)) ⟨vp_in_nI (by omega) (by omega), ?_⟩
      rw [nI_clamp (show i < 2 ^ 31 by omega)]
      by_cases z : rk i = -1
      · refine br_t z (nm_r (nI_1 i) (ih (i + 1) (by omega) (fun c c' q1 q2 q3 => ?_)))
        by_cases ci : c = i
        · exact absurd (ci ▸ z) q3
        · exact hq c c' (by omega) q2 q3
      · refine br_f z ?_
        rw [xl_q0, nI_clamp (show md_p 0 i 0 < 2 ^ 31 by unfold md_p; omega), R.2.1 _ (xl_pb (by omega) (by omega))]
        refine ⟨vp_in_nI (xl_pb (by omega) (by omega)) (by omega), ?_⟩
        have pb := hb _ (xl_pb (show i < 492 by omega) (show 0 < 3 by omega))
        refine xl_hd (by omega) (fun nz => ?_) (fun n1 n2 n3 => ?_)
        · refine br_t rfl (nm_r (nI_1 i) (ih (i + 1) (by omega) (fun c c' q1 q2 q3 q4 q5 => ?_)))
          by_cases ci : c = i
          · subst ci
            intro w
            rw [w] at nz
            rcases nz with nz | nz | nz
            · exact q5 ((md_pe (by omega) (by omega)).mp nz).1.symm
            · unfold md_p at nz; omega
            · rw [show md_p 0 c' 0 / 3 = c' by unfold md_p; omega] at nz
              exact q4 nz
          · exact hq c c' (by omega) q2 q3 q4 q5
        · refine br_f (by decide) ?_
          have r1 := R.1.2.2.1
          have r4 := R.1.2.2.2.2.2.1
          have r6 := R.1.2.2.2.2.2.2.2
          have dd : md_D 0 xl_E (md_v e rk) (h (md_p 0 i 0)) := by
            by_cases q : md_D 0 xl_E (md_v e rk) (md_p 0 i 0)
            · exact (r6.1 _ q).1
            · exact absurd (r6.2 _ q) n1
          have q : h (md_p 0 i 0) / 3 < e := by
            rcases dd with dd | ⟨_, dd⟩
            · exact absurd ((r4 _ dd).1 (Nat.zero_le _)).2 n3
            · unfold md_v at dd
              by_cases q : (h (md_p 0 i 0) - 0) / 3 < e
              · exact q
              · rw [if_neg q] at dd
                omega
          have eh : h (md_p 0 i 0) = md_p 0 (h (md_p 0 i 0) / 3) 0 := by have zz := md_p0 (h (md_p 0 i 0) / 3); omega
          refine h2 i (h (md_p 0 i 0) / 3) ⟨by omega, q, z, n3, fun w => n1 ?_, eh⟩
          rw [eh, ← w]
  exact ⟨_, key e 0 (by omega) (fun c c' q => by omega)⟩
theorem xl_lp {post : Int32 → SX → Prop} {N0 : fz_N}
    (H : ∀ k N e l rk rw h g, k ≤ 120 → fz_pa k N0 N → xl_R k N e l rk rw h g → (fz_no N → post 1 (fc, nI e, nI k, nI l, fr, ak, aw, rk, rw, ir, re)) ∧ (k = 120 → ¬ fz_no N → post 0 (fc, nI e, nI k, nI l, fr, ak, aw, rk, rw, ir, re))) :
    ∀ d k N e l rk rw h g r, k + d = 120 → fz_pa k N0 N → xl_R k N e l rk rw h g → ((r = -1 ∧ fz_no N) ∨ ∃ a b, r = nI a ∧ xl_F rk h 0 e a b) → wX_runComesToRest_11 post (d + 1) (nI k) r fc (nI e) fs (nI l) fr ak aw rk rw ir re := by
  intro d
  induction d with
  | zero =>
    intro k N e l rk rw h g r hk pa R hr
    have HH := H k N e l rk rw h g (by omega) pa R
    have e4 := R.2.2.2.2
    refine br_t (nI_le (a := 120) (by omega) (by omega)) ?_
    unfold wX_runComesToRest_38
    rcases hr with ⟨r1, r2⟩ | ⟨a, b, r1, r2⟩
    · exact br_t r1 (HH.1 r2)
    · have := r2.1
      rw [r1]
      refine br_f (xl_nm1 (by omega)) (HH.2 (by omega) (fun no => ?_))
      exact no _ _ (md_face R.1 r2.1 r2.2.1 r2.2.2.1 r2.2.2.2.1 r2.2.2.2.2.1 r2.2.2.2.2.2).1
  | succ d ih =>
    intro k N e l rk rw h g r hk pa R hr
    have HH := H k N e l rk rw h g (by omega) pa R
    have e4 := R.2.2.2.2
    refine br_f (nI_ge (b := 120) (by omega) (by omega)) ?_
    rcases hr with ⟨r1, r2⟩ | ⟨a, b, r1, r2⟩
    · refine br_t r1 ?_
      unfold wX_runComesToRest_38
      exact br_t r1 (HH.1 r2)
    · obtain ⟨q1, q2, q3, q4, q5, q6⟩ := r2
      rw [r1]
      refine br_f (xl_nm1 (by omega)) ?_
      refine xl_st R (by omega) q1 q2 q3 q4 q5 q6 (fun e' l' rk' rw' h' g' R' => ?_)
      dsimp only
      refine nm_r (nI_1 k) ?_
      have pa' := fz_snoc k N0 N _ _ pa (md_face R.1 q1 q2 q3 q4 q5 q6).1
      refine xl_fc R' (by omega) (fun no => ?_) (fun a' b' f' => ?_)
      · exact ih (k + 1) _ e' l' rk' rw' h' g' _ (by omega) pa' R' (Or.inl ⟨rfl, no⟩)
      · exact ih (k + 1) _ e' l' rk' rw' h' g' _ (by omega) pa' R' (Or.inr ⟨a', b', rfl, f'⟩)
theorem xl_c2 {post : SX → Prop} {fe : Int32} {v : Nat → Int32} (H : ∀ rw', (∀ p, p < 1476 → rw' p = v p) → post (fc, 12, fs, 0, fr, ak, aw, rk, rw', ir, re)) (hv : ∀ p, p < 1476 → v p = if p < 34 then aw p else -1) :
    ∀ d i rw, i + d = 1476 → (∀ p, p < i → rw p = v p) → wX_copyNet_41 post fc fe fs fl fr (d + 1) (nI i) ak aw rk rw ir re := by
  intro d
  induction d with
  | zero =>
    intro i rw hi hq
    exact br_t (nI_le (a := 1476) (by omega) (by omega)) (H rw (fun p hp => hq p (by omega)))
  | succ d ih =>
    intro i rw hi hq
    refine br_f (nI_ge (b := 1476) (by omega) (by omega)) ?_
    rw [nI_clamp (show i < 2 ^ 31 by omega)]
    have stp : ∀ x, x = v i → (∀ p, p < i + 1 → upd rw i x p = v p) := by
      intro x ex p hp
      by_cases c : p = i
      · rw [c, pk_us, ex]
      · rw [pk_un c]; exact hq p (by omega)
    have vi := hv i (by omega)
    by_cases c : i < 34
    · rw [if_pos c] at vi
      exact br_f (nI_ge (b := 34) c (by omega)) ⟨vp_in_nI c (by omega), vp_in_nI (by omega) (by omega), nm_e (nm_r (nI_1 i) (ih (i + 1) _ (by omega) (stp _ vi.symm)))⟩
    · rw [if_neg c] at vi
      exact br_t (nI_le (a := 34) (by omega) (by omega)) ⟨vp_in_nI (by omega) (by omega), nm_e (nm_r (nI_1 i) (ih (i + 1) _ (by omega) (stp _ vi.symm)))⟩
theorem xl_c1 {post : SX → Prop} {fe : Int32} {c : Nat} {v u : Nat → Int32} (hc : c ≤ 10) (hfc : fc = nI c) (H : ∀ rk' rw', (∀ p, p < 492 → rk' p = u p) → (∀ p, p < 1476 → rw' p = v p) → post (fc, 12, fs, 0, fr, ak, aw, rk', rw', ir, re))
    (hv : ∀ p, p < 1476 → v p = if p < 34 then aw p else -1) (hu : ∀ p, p < 492 → u p = if p < c then ak p else -1) :
    ∀ d i rk, i + d = 492 → (∀ p, p < i → rk p = u p) → wX_copyNet_2 post fc fe fs fl fr (d + 1) (nI i) ak aw rk rw ir re := by
  subst hfc
  intro d
  induction d with
  | zero =>
    intro i rk hi hq
    refine br_t (nI_le (a := 492) (by omega) (by omega)) ⟨1477, ?_⟩
    have := xl_c2 (post := post) (fc := nI c) (fe := fe) (fs := fs) (fl := fl) (fr := fr) (ak := ak) (aw := aw) (rk := rk) (ir := ir) (re := re) (v := v) (fun rw' hw => H rk rw' (fun p hp => hq p (by omega)) hw) hv 1476 0 rw (by omega) (fun p hp => by omega)
    exact this
  | succ d ih =>
    intro i rk hi hq
    refine br_f (nI_ge (b := 492) (by omega) (by omega)) ?_
    rw [nI_clamp (show i < 2 ^ 31 by omega)]
    have stp : ∀ x, x = u i → (∀ p, p < i + 1 → upd rk i x p = u p) := by
      intro x ex p hp
      by_cases c : p = i
      · rw [c, pk_us, ex]
      · rw [pk_un c]; exact hq p (by omega)
    have vi := hu i (by omega)
    by_cases z : i < c
    · rw [if_pos z] at vi
      exact br_f (nI_ge (b := c) z (by omega)) ⟨vp_in_nI (by omega) (by omega), vp_in_nI (by omega) (by omega), nm_e (nm_r (nI_1 i) (ih (i + 1) _ (by omega) (stp _ vi.symm)))⟩
    · rw [if_neg z] at vi
      exact br_t (nI_le (a := c) (by omega) (by omega)) ⟨vp_in_nI (by omega) (by omega), nm_e (nm_r (nI_1 i) (ih (i + 1) _ (by omega) (stp _ vi.symm)))⟩
/-- a run of the component, from a net that its copy is -/
theorem xl_run {post : Int32 → SX → Prop} {fe : Int32} {c : Nat} {N0 : fz_N} {h0 g0 : Nat → Nat} (hc : c ≤ 10) (hfc : fc = nI c)
    (R0 : ∀ rk' rw', (∀ p, p < 492 → rk' p = if p < c then ak p else -1) → (∀ p, p < 1476 → rw' p = if p < 34 then aw p else -1) → xl_R 0 N0 12 0 rk' rw' h0 g0)
    (H : ∀ k N e l rk rw h g, k ≤ 120 → fz_pa k N0 N → xl_R k N e l rk rw h g → (fz_no N → post 1 (fc, nI e, nI k, nI l, fr, ak, aw, rk, rw, ir, re)) ∧ (k = 120 → ¬ fz_no N → post 0 (fc, nI e, nI k, nI l, fr, ak, aw, rk, rw, ir, re))) :
    wpX_runComesToRest post (fc, fe, fs, fl, fr, ak, aw, rk, rw, ir, re) := by
  unfold wpX_runComesToRest
  dsimp only
  unfold wpX_copyNet
  dsimp only
  refine ⟨493, ?_⟩
  refine xl_c1 (u := fun p => if p < c then ak p else -1) (v := fun p => if p < 34 then aw p else -1) hc hfc (fun rk' rw' h1 h2 => ?_) (fun p _ => rfl) (fun p _ => rfl) 492 0 rk (by omega) (fun p hp => by omega)
  dsimp only
  have R := R0 rk' rw' h1 h2
  refine xl_fc R (by omega) (fun no => ?_) (fun a b f => ?_)
  · exact ⟨121, xl_lp H 120 0 N0 12 0 rk' rw' h0 g0 _ (by omega) rfl R (Or.inl ⟨rfl, no⟩)⟩
  · exact ⟨121, xl_lp H 120 0 N0 12 0 rk' rw' h0 g0 _ (by omega) rfl R (Or.inr ⟨a, b, rfl, f⟩)⟩
end
