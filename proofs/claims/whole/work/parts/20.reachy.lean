/-! reach: the reference's marks -/
theorem cn_mo {p q : Nat → Bool} : ∀ n, (∀ i, i < n → p i = true → q i = true) → cn_c p n ≤ cn_c q n
  | 0, _ => Nat.le_refl 0
  | n + 1, h => by
    have r := cn_mo (p := p) (q := q) n (fun i hi => h i (by omega))
    have hn := h n (by omega)
    show cn_c p n + _ ≤ cn_c q n + _
    by_cases c : p n = true
    · rw [if_pos c, if_pos (hn c)]; omega
    · rw [if_neg c]; omega
theorem cn_sl {p q : Nat → Bool} : ∀ n, (∀ i, i < n → p i = true → q i = true) → (∃ i, i < n ∧ q i = true ∧ p i = false) → cn_c p n < cn_c q n
  | 0, _, ⟨i, hi, _⟩ => absurd hi (Nat.not_lt_zero _)
  | n + 1, h, ⟨i, hi, q1, p0⟩ => by
    show cn_c p n + _ < cn_c q n + _
    have hn := h n (by omega)
    by_cases c : i = n
    · subst c
      have r := cn_mo (p := p) (q := q) i (fun j hj => h j (by omega))
      rw [if_pos q1, if_neg (by rw [p0]; decide)]
      omega
    · have r := cn_sl (p := p) (q := q) n (fun j hj => h j (by omega)) ⟨i, by omega, q1, p0⟩
      by_cases d : p n = true
      · rw [if_pos d, if_pos (hn d)]; omega
      · rw [if_neg d]; omega
def rq_M (e : Nat) (mt : Nat → Int32) (M : Nat → Bool) : Prop := ∀ c, c < e → mt c = if M c = true then 1 else 0
def rq_m (M : Nat → Bool) (c d x : Nat) : Bool := if x = c ∨ x = d then (M c || M d) else M x
theorem rq_mle {M : Nat → Bool} {c d : Nat} (x : Nat) (h : M x = true) : rq_m M c d x = true := by
  unfold rq_m
  split
  · rename_i z
    rcases z with z | z
    · rw [← z, h]; rfl
    · rw [← z, h]; exact Bool.or_true _
  · exact h
theorem rq_meq {M : Nat → Bool} {c d : Nat} (h : M c = M d) (x : Nat) : rq_m M c d x = M x := by
  unfold rq_m
  split
  · rename_i z
    rcases z with z | z
    · rw [z, ← h, Bool.or_self]
    · rw [z, h, Bool.or_self]
  · rfl
section
variable {gc gw gl gs : Int32} {bk bf bs rk rf rs mt : Nat → Int32} {e m : Nat}
theorem rq_80 {post : Int32 → SY → Prop} {J : Int32 → Int32 → (Nat → Int32) → (Nat → Int32) → (Nat → Int32) → (Nat → Int32) → (Nat → Int32) → (Nat → Int32) → (Nat → Int32) → Prop} {i c d : Nat} {M : Nat → Bool} {z0 : Int32} (he : e ≤ 500) (hc : c < e) (hd : d < e) (W : rq_M e mt M)
    (H : ∀ mt', rq_M e mt' (rq_m M c d) → J z0 (nI (i + 1)) bk bf bs rk rf rs mt') : wY_spread_80 post J (nI i) (nI c) (nI d) z0 gc gw (nI e) (nI m) gl gs bk bf bs rk rf rs mt := by
  have fin : ∀ (z : Int32), vp_nar .boolean z = z → z = (if (M c || M d) = true then 1 else 0) → wY_spread_105 post J z0 (nI i) (nI c) (nI d) z gc gw (nI e) (nI m) gl gs bk bf bs rk rf rs mt := by
    intro z ez hz
    unfold wY_spread_105
    rw [nI_clamp (show c < 2 ^ 31 by omega), nI_clamp (show d < 2 ^ 31 by omega), ez]
    refine ⟨vp_in_nI (by omega) (by omega), nm_e ⟨vp_in_nI (by omega) (by omega), nm_e (nm_r (nI_1 i) (H _ (fun x hx => ?_)))⟩⟩
    unfold rq_m
    by_cases x2 : x = d
    · rw [x2, pk_us, if_pos (Or.inr rfl)]; exact hz
    · rw [pk_un x2]
      by_cases x1 : x = c
      · rw [x1, pk_us, if_pos (Or.inl rfl)]; exact hz
      · have nx : ¬ (x = c ∨ x = d) := fun w => w.elim x1 x2
        rw [pk_un x1, if_neg nx]
        exact W x hx
  unfold wY_spread_80
  rw [nI_clamp (show c < 2 ^ 31 by omega), nI_clamp (show d < 2 ^ 31 by omega), W c hc, W d hd]
  refine ⟨vp_in_nI (by omega) (by omega), ?_⟩
  by_cases mc : M c = true
  · rw [if_pos mc]
    refine br_f (by decide) ?_
    unfold wY_spread_100
    exact fin 1 rc_n1 (by rw [mc]; rfl)
  · have mc' : M c = false := by
      cases h : M c
      · rfl
      · exact absurd h mc
    rw [if_neg mc]
    refine br_t rfl ⟨vp_in_nI (by omega) (by omega), ?_⟩
    by_cases md : M d = true
    · rw [if_pos md]
      refine br_f (by decide) ?_
      unfold wY_spread_100
      exact fin 1 rc_n1 (by rw [mc', md]; rfl)
    · have md' : M d = false := by
        cases h : M d
        · rfl
        · exact absurd h md
      rw [if_neg md]
      exact br_t rfl (fin 0 rc_n0 (by rw [mc', md']; rfl))
/-- one pass over the wires; Q holds of the marks at its beginning and is kept by a wire -/
theorem rq_sp {post : Int32 → SY → Prop} {f s h : Nat → Nat} {M0 : Nat → Bool} {Q : (Nat → Bool) → Prop} (he : e ≤ 500) (hm : m ≤ 520) (A : yl_A m rf rs f s) (G : yl_G m f s h) (W : rq_M e mt M0) (q0 : Q M0)
    (cell : ∀ i, i < m → 4 ≤ f i → 4 ≤ s i → (f i - 4) / 3 < e ∧ (s i - 4) / 3 < e) (kp : ∀ M i, i < m → 4 ≤ f i → 4 ≤ s i → Q M → Q (rq_m M ((f i - 4) / 3) ((s i - 4) / 3)))
    (h0 : ∀ mt', rq_M e mt' M0 → (∀ i, i < m → 4 ≤ f i → 4 ≤ s i → M0 ((f i - 4) / 3) = M0 ((s i - 4) / 3)) → post 0 (gc, gw, nI e, nI m, gl, gs, bk, bf, bs, rk, rf, rs, mt'))
    (h1 : ∀ M mt', rq_M e mt' M → Q M → cn_c M0 e < cn_c M e → post 1 (gc, gw, nI e, nI m, gl, gs, bk, bf, bs, rk, rf, rs, mt')) : wpY_spread post (gc, gw, nI e, nI m, gl, gs, bk, bf, bs, rk, rf, rs, mt) := by
  have key : ∀ d i (b : Int32) M mt, i + d = m → rq_M e mt M → Q M → ((b = 0 ∧ (∀ c, c < e → M c = M0 c) ∧ ∀ j, j < i → 4 ≤ f j → 4 ≤ s j → M0 ((f j - 4) / 3) = M0 ((s j - 4) / 3)) ∨ (b = 1 ∧ cn_c M0 e < cn_c M e)) →
      wY_spread_4 post gc gw (nI e) (nI m) gl gs (d + 1) b (nI i) bk bf bs rk rf rs mt := by
    intro d
    induction d with
    | zero =>
      intro i b M mt hi W q hb
      refine br_t (nI_le (by omega) (by omega)) ?_
      rcases hb with ⟨b0, b1, b2⟩ | ⟨b0, b1⟩
      · rw [b0]
        refine ⟨lw_bz_n 0, h0 mt (fun c hc => ?_) (fun j hj => b2 j (by omega))⟩
        rw [W c hc, b1 c hc]
      · rw [b0]
        exact ⟨lw_bz_n 1, h1 M mt W q b1⟩
    | succ d ih =>
      intro i b M mt hi W q hb
      have a := A i (by omega)
      have g := G.1 i (by omega)
      refine br_f (nI_ge (by omega) (by omega)) ⟨vp_in_nI (by omega) (by omega), ?_⟩
      rw [nI_clamp (show i < 2 ^ 31 by omega), a.1, a.2]
      have skip : (f i < 4 ∨ s i < 4) → wY_spread_4 post gc gw (nI e) (nI m) gl gs (d + 1) b (nI (i + 1)) bk bf bs rk rf rs mt := by
        intro z
        refine ih (i + 1) b M mt (by omega) W q ?_
        rcases hb with ⟨b0, b1, b2⟩ | hb
        · left
          refine ⟨b0, b1, fun j hj h4 h5 => ?_⟩
          by_cases ej : j = i
          · subst ej; omega
          · exact b2 j (by omega) h4 h5
        · exact Or.inr hb
      by_cases f4 : f i < 4
      · exact br_t (nI_le (b := 3) (by omega) (by omega)) (nm_r (nI_1 i) (skip (Or.inl f4)))
      · refine br_f (nI_ge (a := 3) (by omega) (by omega)) ⟨vp_in_nI (by omega) (by omega), ?_⟩
        by_cases s4 : s i < 4
        · exact br_t (nI_le (b := 3) (by omega) (by omega)) (nm_r (nI_1 i) (skip (Or.inr s4)))
        · have cl := cell i (by omega) (by omega) (by omega)
          rw [show nI (f i) - 4 = nI (f i - 4) from pk_sub (b := 4) (by omega), show nI (s i) - 4 = nI (s i - 4) from pk_sub (b := 4) (by omega), xl_dv (by omega), xl_dv (by omega)]
          refine br_f (nI_ge (a := 3) (by omega) (by omega)) ⟨vp_in_nI (by omega) (by omega), by decide, nm_e ⟨vp_in_nI (by omega) (by omega), by decide, nm_e ?_⟩⟩
          have q' := kp M i (by omega) (by omega) (by omega) q
          have go1 : cn_c M0 e < cn_c (rq_m M ((f i - 4) / 3) ((s i - 4) / 3)) e → wY_spread_75 post (wY_spread_4 post gc gw (nI e) (nI m) gl gs (d + 1)) (nI i) (nI ((f i - 4) / 3)) (nI ((s i - 4) / 3)) gc gw (nI e) (nI m) gl gs bk bf bs rk rf rs mt := by
            intro lt
            unfold wY_spread_75
            exact rq_80 he cl.1 cl.2 W (fun mt' W' => ih (i + 1) 1 _ mt' (by omega) W' q' (Or.inr ⟨rfl, lt⟩))
          have mono : ∀ x, x < e → M x = true → rq_m M ((f i - 4) / 3) ((s i - 4) / 3) x = true := fun x _ hx => rq_mle x hx
          rcases hb with ⟨b0, b1, b2⟩ | ⟨b0, b1⟩
          · rw [b0]
            refine br_t rfl ⟨vp_in_nI (by omega) (by omega), vp_in_nI (by omega) (by omega), ?_⟩
            rw [nI_clamp (show (f i - 4) / 3 < 2 ^ 31 by omega), nI_clamp (show (s i - 4) / 3 < 2 ^ 31 by omega), W _ cl.1, W _ cl.2]
            by_cases em : M ((f i - 4) / 3) = M ((s i - 4) / 3)
            · refine br_t (by rw [em]) (rq_80 he cl.1 cl.2 W (fun mt' W' => ih (i + 1) 0 _ mt' (by omega) W' q' (Or.inl ⟨rfl, fun c hc => ?_, fun j hj h4 h5 => ?_⟩)))
              · rw [rq_meq em, b1 c hc]
              · by_cases ej : j = i
                · subst ej
                  rw [← b1 _ cl.1, ← b1 _ cl.2, em]
                · exact b2 j (by omega) h4 h5
            · have lt : cn_c M0 e < cn_c (rq_m M ((f i - 4) / 3) ((s i - 4) / 3)) e := by
                refine cn_sl e (fun x hx h => mono x hx (by rw [b1 x hx]; exact h)) ?_
                by_cases mf : M ((f i - 4) / 3) = true
                · refine ⟨(s i - 4) / 3, cl.2, ?_, ?_⟩
                  · unfold rq_m
                    rw [if_pos (Or.inr rfl), mf]; rfl
                  · rw [← b1 _ cl.2]
                    cases hh : M ((s i - 4) / 3)
                    · rfl
                    · rw [mf, hh] at em; exact absurd rfl em
                · have mf' : M ((f i - 4) / 3) = false := by
                    cases hh : M ((f i - 4) / 3)
                    · rfl
                    · exact absurd hh mf
                  refine ⟨(f i - 4) / 3, cl.1, ?_, ?_⟩
                  · unfold rq_m
                    rw [if_pos (Or.inl rfl), mf']
                    cases hh : M ((s i - 4) / 3)
                    · rw [mf', hh] at em; exact absurd rfl em
                    · rfl
                  · rw [← b1 _ cl.1]; exact mf'
              refine br_f (fun z => em ?_) (go1 lt)
              by_cases mf : M ((f i - 4) / 3) = true <;> by_cases ms : M ((s i - 4) / 3) = true
              · rw [mf, ms]
              · rw [if_pos mf, if_neg ms] at z
                exact absurd z (by decide)
              · rw [if_neg mf, if_pos ms] at z
                exact absurd z (by decide)
              · rw [Bool.not_eq_true] at mf ms
                rw [mf, ms]
          · rw [b0]
            exact br_f (by decide) (go1 (Nat.lt_of_lt_of_le b1 (cn_mo e mono)))
  exact ⟨_, key m 0 0 M0 mt (by omega) W q0 (Or.inl ⟨rfl, fun c hc => rfl, fun j hj => by omega⟩)⟩
theorem rq_88 {post : Int32 → SY → Prop} {M : Nat → Bool} (he : e ≤ 500) (W : rq_M e mt M) (H : post (nI (cn_c M e)) (gc, gw, nI e, nI m, gl, gs, bk, bf, bs, rk, rf, rs, mt)) : ∃ n88 : Nat, wY_reach_88 post gc gw (nI e) (nI m) gl gs bk bf bs rk rf rs mt n88 0 0 := by
  have key : ∀ d i, i + d = e → wY_reach_88 post gc gw (nI e) (nI m) gl gs bk bf bs rk rf rs mt (d + 1) (nI (cn_c M i)) (nI i) := by
    intro d
    induction d with
    | zero =>
      intro i hi
      have : i = e := by omega
      subst this
      exact br_t (nI_le (by omega) (by omega)) H
    | succ d ih =>
      intro i hi
      have nx := ih (i + 1) (by omega)
      refine br_f (nI_ge (by omega) (by omega)) ?_
      rw [nI_clamp (show i < 2 ^ 31 by omega), W i (by omega)]
      refine ⟨vp_in_nI (by omega) (by omega), ?_⟩
      by_cases z : M i = true
      · rw [cn_t z] at nx
        rw [if_pos z]
        exact br_f (by decide) (nm_r (nI_1 _) (nm_r (nI_1 i) nx))
      · rw [cn_f (Bool.not_eq_true _ ▸ z)] at nx
        rw [if_neg z]
        exact br_t rfl (nm_r (nI_1 i) nx)
  exact ⟨_, key e 0 (by omega)⟩
theorem rq_70 {post : Int32 → SY → Prop} {f s h : Nat → Nat} {Q : (Nat → Bool) → Prop} (he : e ≤ 500) (hm : m ≤ 520) (A : yl_A m rf rs f s) (G : yl_G m f s h)
    (cell : ∀ i, i < m → 4 ≤ f i → 4 ≤ s i → (f i - 4) / 3 < e ∧ (s i - 4) / 3 < e) (kp : ∀ M i, i < m → 4 ≤ f i → 4 ≤ s i → Q M → Q (rq_m M ((f i - 4) / 3) ((s i - 4) / 3)))
    (H : ∀ M mt', Q M → (∀ i, i < m → 4 ≤ f i → 4 ≤ s i → M ((f i - 4) / 3) = M ((s i - 4) / 3)) → post (nI (cn_c M e)) (gc, gw, nI e, nI m, gl, gs, bk, bf, bs, rk, rf, rs, mt')) :
    ∀ d M mt, e ≤ cn_c M e + d → rq_M e mt M → Q M → wY_reach_70 post (d + 1 + 1) 1 gc gw (nI e) (nI m) gl gs bk bf bs rk rf rs mt := by
  intro d
  induction d with
  | zero =>
    intro M mt hd W q
    refine br_f (by decide) ?_
    refine rq_sp he hm A G W q cell kp (fun mt' W' cl => ?_) (fun M' mt' W' q' lt => ?_)
    · exact br_t rfl (rq_88 he W' (H M mt' q cl))
    · have := cn_le M' e
      omega
  | succ d ih =>
    intro M mt hd W q
    refine br_f (by decide) ?_
    refine rq_sp he hm A G W q cell kp (fun mt' W' cl => ?_) (fun M' mt' W' q' lt => ?_)
    · exact br_t rfl (rq_88 he W' (H M mt' q cl))
    · exact ih M' mt' (by omega) W' q'
theorem rq_29 {post : Int32 → SY → Prop} {j q : Nat} (he : e ≤ 500) (hq : q < 2000)
    (H : ∀ mt', rq_M e mt' (fun c => decide (q ≠ j ∧ 4 ≤ q ∧ (q - 4) / 3 = c)) → ∃ n70 : Nat, wY_reach_70 post n70 1 gc gw (nI e) (nI m) gl gs bk bf bs rk rf rs mt') :
    ∃ n29 : Nat, wY_reach_29 post (md_fo j q) gc gw (nI e) (nI m) gl gs n29 0 bk bf bs rk rf rs mt := by
  have key : ∀ d i mt, i + d = e → (∀ c, c < i → mt c = if (fun c => decide (q ≠ j ∧ 4 ≤ q ∧ (q - 4) / 3 = c)) c = true then 1 else 0) → wY_reach_29 post (md_fo j q) gc gw (nI e) (nI m) gl gs (d + 1) (nI i) bk bf bs rk rf rs mt := by
    intro d
    induction d with
    | zero =>
      intro i mt hi hp
      exact br_t (nI_le (by omega) (by omega)) (H mt (fun c hc => hp c (by omega)))
    | succ d ih =>
      intro i mt hi hp
      refine br_f (nI_ge (by omega) (by omega)) ?_
      rw [nI_clamp (show i < 2 ^ 31 by omega), rc_n0, rc_n1]
      have stp : ∀ x : Int32, x = (if (fun c => decide (q ≠ j ∧ 4 ≤ q ∧ (q - 4) / 3 = c)) i = true then 1 else 0) → wY_reach_29 post (md_fo j q) gc gw (nI e) (nI m) gl gs (d + 1) (nI (i + 1)) bk bf bs rk rf rs (upd mt i x) := by
        intro x hx
        refine ih (i + 1) _ (by omega) (fun c hc => ?_)
        by_cases ci : c = i
        · rw [ci, pk_us, hx]
        · rw [pk_un ci]; exact hp c (by omega)
      have s0 : ¬ (q ≠ j ∧ 4 ≤ q ∧ (q - 4) / 3 = i) → (0 : Int32) = (if (fun c => decide (q ≠ j ∧ 4 ≤ q ∧ (q - 4) / 3 = c)) i = true then 1 else 0) := by
        intro z
        have z' : ¬ (fun c => decide (q ≠ j ∧ 4 ≤ q ∧ (q - 4) / 3 = c)) i = true := fun w => z (of_decide_eq_true w)
        rw [if_neg z']
      have s1 : (q ≠ j ∧ 4 ≤ q ∧ (q - 4) / 3 = i) → (1 : Int32) = (if (fun c => decide (q ≠ j ∧ 4 ≤ q ∧ (q - 4) / 3 = c)) i = true then 1 else 0) := by
        intro z
        have z' : (fun c => decide (q ≠ j ∧ 4 ≤ q ∧ (q - 4) / 3 = c)) i = true := decide_eq_true z
        rw [if_pos z']
      by_cases z : q = j
      · have t := stp 0 (s0 (fun w => w.1 z))
        rw [z, md_fo_s] at t ⊢
        exact br_t (by decide) ⟨vp_in_nI (by omega) (by omega), nm_e (nm_r (nI_1 i) t)⟩
      · rw [md_fo_n z] at stp ⊢
        by_cases q4 : 4 ≤ q
        · rw [show nI q - 4 = nI (q - 4) from pk_sub (b := 4) (by omega), xl_dv (by omega)]
          refine br_f (nI_ge (a := 3) (by omega) (by omega)) ⟨by decide, ?_⟩
          by_cases qi : (q - 4) / 3 = i
          · exact br_t (by rw [qi]) ⟨vp_in_nI (by omega) (by omega), nm_e (nm_r (nI_1 i) (stp 1 (s1 ⟨z, q4, qi⟩)))⟩
          · exact br_f (fun w => qi ((nI_eq (by omega) (by omega)).mp w)) ⟨vp_in_nI (by omega) (by omega), nm_e (nm_r (nI_1 i) (stp 0 (s0 (fun w => qi w.2.2))))⟩
        · exact br_t (nI_le (b := 3) (by omega) (by omega)) ⟨vp_in_nI (by omega) (by omega), nm_e (nm_r (nI_1 i) (stp 0 (s0 (fun w => q4 w.2.1))))⟩
  exact ⟨_, key e 0 mt (by omega) (fun c hc => by omega)⟩
end
def rq_V (gy : Nat → Nat) (e : Nat) (M : Nat → Bool) (a : Nat) : Prop := ∃ c, c < e ∧ M c = true ∧ gy c = a
/-- what a port of a wire is -/
theorem rq_port {n : Nat} {N : fz_N} {e l m : Nat} {rk rf rs : Nat → Int32} {hy gy : Nat → Nat} (RY : yl_R n N e l m rk rf rs hy gy) {p : Nat} (hp : hy p ≠ p) (p4 : 4 ≤ p) : md_D 4 yl_E (md_v e rk) p ∧ (p - 4) / 3 < e ∧ rk ((p - 4) / 3) ≠ -1 ∧ md_P 4 yl_U gy p = 6 * gy ((p - 4) / 3) + (p - 4) % 3 ∧ (p - 4) % 3 < md_pk (N.1 (gy ((p - 4) / 3))) := by
  have r6 := RY.1.2.2.2.2.2.2.2
  have d : md_D 4 yl_E (md_v e rk) p := by
    by_cases d : md_D 4 yl_E (md_v e rk) p
    · exact d
    · exact absurd (r6.2 _ d) hp
  have cx : (p - 4) % 3 < md_v e rk ((p - 4) / 3) := by
    rcases d with w | ⟨_, w⟩
    · unfold yl_E at w; omega
    · exact w
  have l : (p - 4) / 3 < e := by
    by_cases c : (p - 4) / 3 < e
    · exact c
    · unfold md_v at cx
      rw [if_neg c] at cx
      omega
  have k : rk ((p - 4) / 3) ≠ -1 := by
    intro z
    unfold md_v at cx
    rw [if_pos l, z, md_pk_m] at cx
    omega
  refine ⟨d, l, k, ?_, ?_⟩
  · unfold md_P
    rw [if_pos p4]
  · rw [RY.1.2.2.1 _ l k]
    unfold md_v at cx
    rw [if_pos l] at cx
    exact cx
theorem rq_back {n : Nat} {N : fz_N} {e l m : Nat} {rk rf rs : Nat → Int32} {hy gy : Nat → Nat} (RY : yl_R n N e l m rk rf rs hy gy) {x b t : Nat} (dx : md_D 4 yl_E (md_v e rk) x) (ht : t < md_pk (N.1 b)) (ew : N.2.1 (md_P 4 yl_U gy x) = 6 * b + t) : ∃ c, c < e ∧ rk c ≠ -1 ∧ gy c = b ∧ hy x = md_p 4 c t ∧ t < 3 := by
  have t3 : t < 3 := by
    have := md_pk_3 (N.1 b)
    omega
  have lb : N.1 b ≠ -1 := by
    intro z
    rw [z, md_pk_m] at ht
    omega
  obtain ⟨c, h1, h2, h3⟩ := RY.1.2.2.2.1 b lb
  have r6 := RY.1.2.2.2.2.2.2.2
  have q := r6.1 _ dx
  refine ⟨c, h1, h2, h3, ?_, t3⟩
  refine wk_inj RY.1 q.1 (md_Dp ?_ t3) ?_
  · unfold md_v
    rw [if_pos h1, ← RY.1.2.2.1 c h1 h2, h3]
    exact ht
  · rw [← q.2, ew, md_Pp t3, h3]
section
variable {gc gw gl gs : Int32} {bk bf bs mt : Nat → Int32}
/-- the reference's reach, from a net at rest -/
theorem rq_all {post : Int32 → SY → Prop} {n : Nat} {N : fz_N} {e l m : Nat} {rk rf rs : Nat → Int32} {hy gy : Nat → Nat} (RY : yl_R n N e l m rk rf rs hy gy) (hn : n ≤ 120) {j : Nat} (hj : j < 4)
    (H : ∀ M mt', (∀ c, c < e → M c = true → rk c ≠ -1) → rc_cl N (rq_V gy e M) → rc_st N j (rq_V gy e M) → (∀ S, rc_cl N S → rc_st N j S → ∀ c, c < e → M c = true → S (gy c)) → post (nI (cn_c M e)) (gc, gw, nI e, nI m, gl, gs, bk, bf, bs, rk, rf, rs, mt')) :
    ∃ n29 : Nat, wY_reach_29 post (md_fo j (hy j)) gc gw (nI e) (nI m) gl gs n29 0 bk bf bs rk rf rs mt := by
  have e4 := RY.2.2.2.1
  have m3 := RY.2.2.2.2
  obtain ⟨f, s, A, G⟩ := RY.2.1
  have eE : yl_E j := hj
  have dE : md_D 4 yl_E (md_v e rk) j := Or.inl eE
  have PE : md_P 4 yl_U gy j = yl_U j := (RY.1.2.2.2.2.2.1 _ eE).2.2.2
  have hb := yl_Rb RY hn j (by omega)
  have r6 := RY.1.2.2.2.2.2.2.2
  have wf : ∀ i, i < m → 4 ≤ f i → (f i - 4) / 3 < e ∧ rk ((f i - 4) / 3) ≠ -1 ∧ md_P 4 yl_U gy (f i) = 6 * gy ((f i - 4) / 3) + (f i - 4) % 3 ∧ (f i - 4) % 3 < md_pk (N.1 (gy ((f i - 4) / 3))) := by
    intro i hi h4
    have g := G.1 i hi
    exact (rq_port RY (by rw [g.2.2.2.1]; exact fun z => g.2.2.1 z.symm) h4).2
  have wg : ∀ i, i < m → 4 ≤ s i → (s i - 4) / 3 < e ∧ rk ((s i - 4) / 3) ≠ -1 ∧ md_P 4 yl_U gy (s i) = 6 * gy ((s i - 4) / 3) + (s i - 4) % 3 ∧ (s i - 4) % 3 < md_pk (N.1 (gy ((s i - 4) / 3))) := by
    intro i hi h4
    have g := G.1 i hi
    exact (rq_port RY (by rw [g.2.2.2.2]; exact g.2.2.1) h4).2
  have nw : ∀ i, i < m → 4 ≤ f i → N.2.1 (md_P 4 yl_U gy (f i)) = md_P 4 yl_U gy (s i) := by
    intro i hi h4
    have g := G.1 i hi
    have d := (rq_port RY (by rw [g.2.2.2.1]; exact fun z => g.2.2.1 z.symm) h4).1
    rw [(r6.1 _ d).2, g.2.2.2.1]
  -- what is kept
  let Q : (Nat → Bool) → Prop := fun M => (∀ c, c < e → M c = true → rk c ≠ -1) ∧ rc_st N j (rq_V gy e M) ∧ ∀ S, rc_cl N S → rc_st N j S → ∀ c, c < e → M c = true → S (gy c)
  have kp : ∀ M i, i < m → 4 ≤ f i → 4 ≤ s i → Q M → Q (rq_m M ((f i - 4) / 3) ((s i - 4) / 3)) := by
    intro M i hi h4 h5 q
    have a := wf i hi h4
    have b := wg i hi h5
    have w := nw i hi h4
    rw [a.2.2.1, b.2.2.1] at w
    have w' : N.2.1 (6 * gy ((s i - 4) / 3) + (s i - 4) % 3) = 6 * gy ((f i - 4) / 3) + (f i - 4) % 3 := by
      rw [← w]
      exact RY.1.1.1 _
    have cs : ∀ x, rq_m M ((f i - 4) / 3) ((s i - 4) / 3) x = true → M x = true ∨ (x = (f i - 4) / 3 ∧ M ((s i - 4) / 3) = true) ∨ (x = (s i - 4) / 3 ∧ M ((f i - 4) / 3) = true) := by
      intro x hx
      unfold rq_m at hx
      by_cases z : x = (f i - 4) / 3 ∨ x = (s i - 4) / 3
      · rw [if_pos z, Bool.or_eq_true] at hx
        rcases z with z | z
        · rcases hx with y | y
          · left; rw [z]; exact y
          · right; left; exact ⟨z, y⟩
        · rcases hx with y | y
          · right; right; exact ⟨z, y⟩
          · left; rw [z]; exact y
      · rw [if_neg z] at hx
        exact Or.inl hx
    refine ⟨fun c hc mc => ?_, fun b' t ht ew => ?_, fun S s1 s2 c hc mc => ?_⟩
    · rcases cs c mc with y | ⟨y, _⟩ | ⟨y, _⟩
      · exact q.1 c hc y
      · rw [y]; exact a.2.1
      · rw [y]; exact b.2.1
    · obtain ⟨c, hc, mc, ec⟩ := q.2.1 b' t ht ew
      exact ⟨c, hc, rq_mle c mc, ec⟩
    · rcases cs c mc with y | ⟨y, y2⟩ | ⟨y, y2⟩
      · exact q.2.2 S s1 s2 c hc y
      · rw [y]
        exact s1 _ _ _ _ b.2.2.2 a.2.2.2 w' (q.2.2 S s1 s2 _ b.1 y2)
      · rw [y]
        exact s1 _ _ _ _ a.2.2.2 b.2.2.2 w (q.2.2 S s1 s2 _ a.1 y2)
  refine rq_29 (by omega) hb (fun mt' W' => ?_)
  refine ⟨e + 1 + 1, ?_⟩
  refine rq_70 (Q := Q) (by omega) (by omega) A G (fun i hi h4 h5 => ⟨(wf i hi h4).1, (wg i hi h5).1⟩) kp (fun M mt2 q cl => ?_) e _ mt' (by omega) W' ?_
  · refine H M mt2 q.1 ?_ q.2.1 q.2.2
    intro a sa b t hs ht ew va
    obtain ⟨c, hc, mc, ec⟩ := va
    have lc := q.1 c hc mc
    have s3 : sa < 3 := by
      have := md_pk_3 (N.1 a)
      omega
    have D : md_D 4 yl_E (md_v e rk) (md_p 4 c sa) := by
      refine md_Dp ?_ s3
      unfold md_v
      rw [if_pos hc, ← RY.1.2.2.1 _ hc lc, ec]
      exact hs
    obtain ⟨d, h1, h2, h3, h4, t3⟩ := rq_back RY D ht (by rw [md_Pp s3, ec]; exact ew)
    by_cases own : hy (md_p 4 c sa) = md_p 4 c sa
    · rw [own] at h4
      have := ((md_pe s3 t3).mp h4).1
      exact ⟨c, hc, mc, by rw [this]; exact h3⟩
    · obtain ⟨i, hi, ei⟩ := G.2.1 _ own
      have g := G.1 i hi
      refine ⟨d, h1, ?_, h3⟩
      have c1 : (md_p 4 c sa - 4) / 3 = c := md_pd s3
      have c2 : (md_p 4 d t - 4) / 3 = d := md_pd t3
      have o1 : 4 ≤ md_p 4 c sa := md_po
      have o2 : 4 ≤ md_p 4 d t := md_po
      rcases ei with ei | ei
      · have es : s i = md_p 4 d t := by rw [← g.2.2.2.1, ei, h4]
        have z := cl i hi (by rw [ei]; exact o1) (by rw [es]; exact o2)
        rw [ei, es, c1, c2] at z
        rw [← z]; exact mc
      · have es : f i = md_p 4 d t := by rw [← g.2.2.2.2, ei, h4]
        have z := cl i hi (by rw [es]; exact o2) (by rw [ei]; exact o1)
        rw [ei, es, c1, c2] at z
        rw [z]; exact mc
  · have far : hy j ≠ j → hy (hy j) ≠ hy j := by
      intro z w
      have hi := md_Rh RY.1
      rw [hi] at w
      exact z w.symm
    refine ⟨fun c hc mc => ?_, fun b t ht ew => ?_, fun S s1 s2 c hc mc => ?_⟩
    · have p := of_decide_eq_true mc
      have q := rq_port RY (far p.1) p.2.1
      rw [p.2.2] at q
      exact q.2.2.1
    · obtain ⟨c, h1, h2, h3, h4, t3⟩ := rq_back RY dE ht (by rw [PE]; exact ew)
      have o1 : 4 ≤ md_p 4 c t := md_po
      refine ⟨c, h1, decide_eq_true ⟨?_, ?_, ?_⟩, h3⟩
      · rw [h4]; omega
      · rw [h4]; exact o1
      · rw [h4]; exact md_pd t3
    · have p := of_decide_eq_true mc
      have q := rq_port RY (far p.1) p.2.1
      have w := (r6.1 _ dE).2
      rw [PE, q.2.2.2.1] at w
      have r := s2 _ _ q.2.2.2.2 w
      rw [p.2.2] at r
      exact r
end
theorem i_vc_reach {k : Nat} {u : SX} {v : SY} (I : i_Rel k u v) (hk : k + 3 ≤ 1536) (v1 : Int32) : wpX_reach (fun r u' => wpY_reach (fun r' v' => r' = r ∧ i_Rel (k + 3) u' v') v v1) u v1 := by
  obtain ⟨fc, fe, fs, fl, fr, ak, aw, xk, xw, ir, re⟩ := u
  obtain ⟨gc, gw, ge, gm, gl, gs, bk, bf, bs, rk, rf, rs, mt⟩ := v
  obtain ⟨c, m, h, e1, e2, e3, e4, R⟩ := I
  dsimp only at e1 e2 e3 e4 R
  have e5 := e4.symm
  clear e4
  subst e1 e2 e3 e5
  unfold wpX_reach wpY_reach wpX_isEndIndex
  dsimp only
  by_cases z : v1 < 0
  · exact br_t z (br_t rfl (br_t z ⟨rfl, ir_mk R⟩))
  · obtain ⟨j, hj, rfl⟩ := nI_of z
    refine br_f z ?_
    by_cases j4 : j < 4
    · refine br_f (nI_ge (b := 4) j4 (by omega)) (br_f (by decide) ?_)
      have n3 : nI j ≤ 3 := nI_le (b := 3) (by omega) (by omega)
      refine rn_b (ge := ge) (gm := gm) (gl := gl) (gs := gs) (rk := rk) (rf := rf) (rs := rs) (mt := mt) R (fun e l n xk' xw' hY => ?_) (fun n N e l xk' xw' hx gx hn no RX hY => ?_)
      · refine br_t rfl (br_f z (br_t n3 (hY _ (fun e' l' m' n rk' rf' rs' => ?_))))
        exact br_t rfl ⟨rfl, ir_mk R⟩
      · refine br_f (by decide) ?_
        rw [show (30 : Int32) + nI j = nI (30 + j) from nI_add 30 j]
        refine rx_all RX hn j4 (fun rc ql ir' re' rl lq iq vc vs vm => ?_)
        refine br_f z (br_t n3 (hY _ (fun e' l' m' rk' rf' rs' hy gy RY => ?_)))
        have m3' := RY.2.2.2.2
        refine br_f (by decide) ?_
        refine yl_ac (by omega) (by omega) RY.2.1 ?_
        refine rq_all RY hn j4 (fun M mt' ml wc ws wm => ⟨?_, ir_mk R⟩)
        have c1 : cn_c M e' ≤ cn_c (fun _ => true) rc := by
          refine cn_rel (R := fun c i => gx (ql i) = gy c) e' _ (fun c hc mc => ?_) (fun c c' i hc hc' mc mc' r1 r2 => ?_)
          · obtain ⟨i, hi, ei⟩ := wm _ vc vs c hc mc
            exact ⟨i, hi, rfl, ei⟩
          · exact RY.1.2.2.2.2.1 c c' hc hc' (ml c hc mc) (ml c' hc' mc') (r1.symm.trans r2)
        have c2 : cn_c (fun _ => true) rc ≤ cn_c M e' := by
          refine cn_rel (R := fun i c => gy c = gx (ql i)) rc _ (fun i hi _ => ?_) (fun i i' c hi hi' _ _ r1 r2 => ?_)
          · obtain ⟨c, hc, mc, ec⟩ := vm _ wc ws i hi
            exact ⟨c, hc, mc, ec⟩
          · exact iq i i' hi hi' (RX.1.2.2.2.2.1 _ _ (lq i hi).1 (lq i' hi').1 (lq i hi).2 (lq i' hi').2 (r1.symm.trans r2))
        rw [cn_all] at c1 c2
        rw [Nat.le_antisymm c1 c2]
    · exact br_t (nI_le (a := 4) (by omega) hj) (br_t rfl (br_f z (br_f (nI_ge (a := 3) (by omega) hj) ⟨rfl, ir_mk R⟩)))
