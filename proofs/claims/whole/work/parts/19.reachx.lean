/-! reach: the component's queue -/
def rc_cl (N : fz_N) (S : Nat → Prop) : Prop := ∀ a s b t, s < md_pk (N.1 a) → t < md_pk (N.1 b) → N.2.1 (6 * a + s) = 6 * b + t → S a → S b
def rc_st (N : fz_N) (j : Nat) (S : Nat → Prop) : Prop := ∀ b t, t < md_pk (N.1 b) → N.2.1 (yl_U j) = 6 * b + t → S b
theorem rc_n0 : vp_nar .boolean 0 = 0 := by
  unfold vp_nar
  rw [show narrow .boolean (.int 0) = .int 0 from lw_bz_n 0]
theorem rc_n1 : vp_nar .boolean 1 = 1 := by
  unfold vp_nar
  rw [show narrow .boolean (.int 1) = .int 1 from lw_bz_n 1]
def rx_I (e rc : Nat) (xk ir re : Nat → Int32) (ql : Nat → Nat) : Prop :=
  (∀ i, i < rc → re i = nI (ql i) ∧ ql i < e ∧ xk (ql i) ≠ -1) ∧ (∀ i i', i < rc → i' < rc → ql i = ql i' → i = i') ∧
  ∀ c, c < 492 → (ir c = 0 ∧ ∀ i, i < rc → ql i ≠ c) ∨ (ir c = 1 ∧ ∃ i, i < rc ∧ ql i = c)
theorem rx_le {e rc : Nat} {ql : Nat → Nat} (h1 : ∀ i, i < rc → ql i < e) (h2 : ∀ i i', i < rc → i' < rc → ql i = ql i' → i = i') : rc ≤ e := by
  have r := cn_rel (R := fun i j => ql i = j) (p := fun _ => true) (m := e) rc (fun _ => true) (fun i hi _ => ⟨ql i, h1 i hi, rfl, rfl⟩) (fun i i' j hi hi' _ _ r1 r2 => h2 i i' hi hi' (r1.trans r2.symm))
  rw [cn_all, cn_all] at r
  exact r
section
variable {fc fs fl fr : Int32} {ak aw ir re : Nat → Int32}
theorem rx_fg {post : SX → Prop} {fe : Int32} {xk xw : Nat → Int32} (H : ∀ ir', (∀ c, c < 492 → ir' c = 0) → post (fc, fe, fs, fl, 0, ak, aw, xk, xw, ir', re)) : wpX_forgetReached post (fc, fe, fs, fl, fr, ak, aw, xk, xw, ir, re) := by
  have key : ∀ d i ir, i + d = 492 → (∀ p, p < i → ir p = 0) → wX_forgetReached_7 post fc fe fs fl 0 (d + 1) (nI i) ak aw xk xw ir re := by
    intro d
    induction d with
    | zero =>
      intro i ir hi hq
      exact br_t (nI_le (a := 492) (by omega) (by omega)) (H ir (fun p hp => hq p (by omega)))
    | succ d ih =>
      intro i ir hi hq
      refine br_f (nI_ge (b := 492) (by omega) (by omega)) ?_
      rw [nI_clamp (show i < 2 ^ 31 by omega), rc_n0]
      refine ⟨vp_in_nI (by omega) (by omega), nm_e (nm_r (nI_1 i) (ih (i + 1) _ (by omega) (fun p hp => ?_)))⟩
      by_cases z : p = i
      · rw [z, pk_us]
      · rw [pk_un z]; exact hq p (by omega)
  exact ⟨_, key 492 0 ir (by omega) (fun p hp => by omega)⟩
theorem rx_rp {post : SX → Prop} {e : Nat} {xk xw : Nat → Int32} {x p rc : Nat} {ql : Nat → Nat} (he : e ≤ 492) (I : rx_I e rc xk ir re ql) (hp : p = x ∨ xl_E p ∨ (p / 3 < e ∧ xk (p / 3) ≠ -1)) (hpb : p < 1476)
    (H : ∀ rc' ql' ir' re', rx_I e rc' xk ir' re' ql' → rc ≤ rc' → (∀ i, i < rc → ql' i = ql i) → (p ≠ x → ¬ xl_E p → ∃ i, i < rc' ∧ ql' i = p / 3) → (∀ i, i < rc' → i < rc ∨ (ql' i = p / 3 ∧ p ≠ x ∧ ¬ xl_E p)) → post (fc, nI e, fs, fl, nI rc', ak, aw, xk, xw, ir', re')) :
    wpX_reachPort post (fc, nI e, fs, fl, nI rc, ak, aw, xk, xw, ir, re) (md_fo x p) := by
  unfold wpX_reachPort
  dsimp only
  by_cases z : p = x
  · rw [z, md_fo_s]
    exact br_t rfl (H rc ql ir re I (Nat.le_refl _) (fun _ _ => rfl) (fun w => absurd z w) (fun i hi => Or.inl hi))
  · rw [md_fo_n z]
    refine br_f (xl_nm1 (by omega)) (xl_ie (by omega) ?_)
    by_cases pe : xl_E p
    · have pe' := pe
      unfold xl_E at pe'
      rw [if_pos pe']
      exact br_f (by decide) (H rc ql ir re I (Nat.le_refl _) (fun _ _ => rfl) (fun _ w => absurd pe w) (fun i hi => Or.inl hi))
    · have pe' : ¬ (30 ≤ p ∧ p ≤ 33) := pe
      rw [if_neg pe', xl_dv (by omega)]
      have hc : p / 3 < e ∧ xk (p / 3) ≠ -1 := by
        rcases hp with w | w | w
        · exact absurd w z
        · exact absurd w pe
        · exact w
      refine br_t rfl ⟨by decide, nm_e ⟨vp_in_nI (by omega) (by omega), ?_⟩⟩
      rw [nI_clamp (show p / 3 < 2 ^ 31 by omega)]
      rcases I.2.2 (p / 3) (by omega) with ⟨i0, ni⟩ | ⟨i1, ei⟩
      · have nI2 : ∀ i i', i < rc + 1 → i' < rc + 1 → (if i = rc then p / 3 else ql i) = (if i' = rc then p / 3 else ql i') → i = i' := by
          intro i i' hi hi' ee
          by_cases c1 : i = rc <;> by_cases c2 : i' = rc
          · omega
          · rw [if_pos c1, if_neg c2] at ee
            exact absurd ee.symm (ni i' (by omega))
          · rw [if_neg c1, if_pos c2] at ee
            exact absurd ee (ni i (by omega))
          · rw [if_neg c1, if_neg c2] at ee
            exact I.2.1 i i' (by omega) (by omega) ee
        have rl : rc + 1 ≤ e := by
          refine rx_le (ql := fun i => if i = rc then p / 3 else ql i) (fun i hi => ?_) nI2
          by_cases c1 : i = rc
          · rw [if_pos c1]; exact hc.1
          · rw [if_neg c1]; exact (I.1 i (by omega)).2.1
        rw [i0, nI_clamp (show rc < 2 ^ 31 by omega), rc_n1]
        refine br_t rfl ⟨vp_in_nI (by omega) (by omega), nm_e ⟨vp_in_nI (by omega) (by omega), nm_e (nm_r (nI_1 rc) (H (rc + 1) (fun i => if i = rc then p / 3 else ql i) _ _ ⟨fun i hi => ?_, nI2, fun c hc' => ?_⟩ (by omega) (fun i hi => ?_) (fun _ _ => ⟨rc, by omega, ?_⟩) (fun i hi => ?_)))⟩⟩
        · dsimp only
          by_cases c1 : i = rc
          · rw [if_pos c1, c1, pk_us]; exact ⟨rfl, hc⟩
          · rw [if_neg c1, pk_un c1]; exact I.1 i (by omega)
        · by_cases c1 : c = p / 3
          · right
            rw [c1, pk_us]
            exact ⟨rfl, rc, by omega, by dsimp only; rw [if_pos rfl]⟩
          · rw [pk_un c1]
            rcases I.2.2 c hc' with ⟨q1, q2⟩ | ⟨q1, i, q2, q3⟩
            · left
              refine ⟨q1, fun i hi => ?_⟩
              dsimp only
              by_cases c2 : i = rc
              · rw [if_pos c2]; exact fun w => c1 w.symm
              · rw [if_neg c2]; exact q2 i (by omega)
            · right
              refine ⟨q1, i, by omega, ?_⟩
              dsimp only
              rw [if_neg (by omega)]
              exact q3
        · rw [if_neg (by omega)]
        · rw [if_pos rfl]
        · by_cases c1 : i = rc
          · right
            rw [if_pos c1]
            exact ⟨rfl, z, pe⟩
          · left; omega
      · rw [i1]
        exact br_f (by decide) (H rc ql ir re I (Nat.le_refl _) (fun _ _ => rfl) (fun _ _ => ei) (fun i hi => Or.inl hi))
end
/-- what the queue's far ports are -/
theorem rx_far {n : Nat} {N : fz_N} {e l : Nat} {xk xw : Nat → Int32} {hx gx : Nat → Nat} (RX : xl_R n N e l xk xw hx gx) (hn : n ≤ 120) {c s : Nat} (hc : c < e) (lc : xk c ≠ -1) (hs : s < 3) :
    (hx (md_p 0 c s) = md_p 0 c s ∨ xl_E (hx (md_p 0 c s)) ∨ (hx (md_p 0 c s) / 3 < e ∧ xk (hx (md_p 0 c s) / 3) ≠ -1)) ∧ hx (md_p 0 c s) < 1476 := by
  have e4 := RX.2.2.2.2
  refine ⟨?_, xl_Rb RX hn _ (xl_pb (by omega) hs)⟩
  have r6 := RX.1.2.2.2.2.2.2.2
  by_cases d : md_D 0 xl_E (md_v e xk) (md_p 0 c s)
  · have q := md_DB e 0 xk _ (r6.1 _ d).1
    rw [Nat.sub_zero] at q
    rcases q with q | ⟨_, q | q⟩
    · exact Or.inr (Or.inl q)
    · exact Or.inr (Or.inr q)
    · omega
  · exact Or.inl (r6.2 _ d)
theorem rx_farE {n : Nat} {N : fz_N} {e l : Nat} {xk xw : Nat → Int32} {hx gx : Nat → Nat} (RX : xl_R n N e l xk xw hx gx) (hn : n ≤ 120) {j : Nat} (hj : j < 4) :
    (hx (30 + j) = 30 + j ∨ xl_E (hx (30 + j)) ∨ (hx (30 + j) / 3 < e ∧ xk (hx (30 + j) / 3) ≠ -1)) ∧ hx (30 + j) < 1476 := by
  have e4 := RX.2.2.2.2
  refine ⟨?_, xl_Rb RX hn _ (by omega)⟩
  have r6 := RX.1.2.2.2.2.2.2.2
  have d : md_D 0 xl_E (md_v e xk) (30 + j) := Or.inl ⟨by omega, by omega⟩
  have q := md_DB e 0 xk _ (r6.1 _ d).1
  rw [Nat.sub_zero] at q
  rcases q with q | ⟨_, q | q⟩
  · exact Or.inr (Or.inl q)
  · exact Or.inr (Or.inr q)
  · omega
/-- a far port that is a cell's, in the net -/
theorem rx_net {n : Nat} {N : fz_N} {e l : Nat} {xk xw : Nat → Int32} {hx gx : Nat → Nat} (RX : xl_R n N e l xk xw hx gx) {x : Nat} (dx : md_D 0 xl_E (md_v e xk) x) (h1 : ¬ xl_E (hx x)) : N.2.1 (md_P 0 xl_U gx x) = 6 * gx (hx x / 3) + hx x % 3 ∧ hx x % 3 < md_pk (N.1 (gx (hx x / 3))) := by
  have r6 := RX.1.2.2.2.2.2.2.2
  have q := r6.1 _ dx
  have cx : hx x % 3 < md_v e xk (hx x / 3) := by
    rcases q.1 with w | ⟨_, w⟩
    · exact absurd w h1
    · rw [Nat.sub_zero] at w; exact w
  have l : hx x / 3 < e := by
    by_cases c : hx x / 3 < e
    · exact c
    · unfold md_v at cx
      rw [if_neg c] at cx
      omega
  have k : xk (hx x / 3) ≠ -1 := by
    intro z
    unfold md_v at cx
    rw [if_pos l, z, md_pk_m] at cx
    omega
  refine ⟨?_, ?_⟩
  · rw [q.2]
    unfold md_P
    rw [if_pos (Nat.zero_le _), Nat.sub_zero]
  · rw [RX.1.2.2.1 _ l k]
    unfold md_v at cx
    rw [if_pos l] at cx
    exact cx
/-- a cell's port in the net, back in the component -/
theorem rx_back {n : Nat} {N : fz_N} {e l : Nat} {xk xw : Nat → Int32} {hx gx : Nat → Nat} (RX : xl_R n N e l xk xw hx gx) {x b t : Nat} (dx : md_D 0 xl_E (md_v e xk) x) (ht : t < md_pk (N.1 b)) (ew : N.2.1 (md_P 0 xl_U gx x) = 6 * b + t) : ∃ c, c < e ∧ xk c ≠ -1 ∧ gx c = b ∧ hx x = md_p 0 c t ∧ t < 3 := by
  have t3 : t < 3 := by
    have := md_pk_3 (N.1 b)
    omega
  have lb : N.1 b ≠ -1 := by
    intro z
    rw [z, md_pk_m] at ht
    omega
  obtain ⟨c, h1, h2, h3⟩ := RX.1.2.2.2.1 b lb
  have r6 := RX.1.2.2.2.2.2.2.2
  have q := r6.1 _ dx
  refine ⟨c, h1, h2, h3, ?_, t3⟩
  refine wk_inj RX.1 q.1 (md_Dp ?_ t3) ?_
  · unfold md_v
    rw [if_pos h1, ← RX.1.2.2.1 c h1 h2, h3]
    exact ht
  · rw [← q.2, ew, md_Pp t3, h3]
def rx_V (gx : Nat → Nat) (rc : Nat) (ql : Nat → Nat) (a : Nat) : Prop := ∃ i, i < rc ∧ gx (ql i) = a
def rx_C (hx : Nat → Nat) (rc : Nat) (ql : Nat → Nat) (x : Nat) : Prop := hx x ≠ x → ¬ xl_E (hx x) → ∃ i, i < rc ∧ ql i = hx x / 3
def rx_S (N : fz_N) (j : Nat) (gx : Nat → Nat) (rc : Nat) (ql : Nat → Nat) : Prop := ∀ S, rc_cl N S → rc_st N j S → ∀ i, i < rc → S (gx (ql i))
theorem rx_Cm {hx : Nat → Nat} {rc rc' : Nat} {ql ql' : Nat → Nat} {x : Nat} (h : rx_C hx rc ql x) (h1 : rc ≤ rc') (h2 : ∀ i, i < rc → ql' i = ql i) : rx_C hx rc' ql' x := by
  intro a b
  obtain ⟨i, hi, e⟩ := h a b
  exact ⟨i, by omega, by rw [h2 i hi, e]⟩
/-- a new cell of the queue is in every closed set -/
theorem rx_Sm {n : Nat} {N : fz_N} {e l : Nat} {xk xw : Nat → Int32} {hx gx : Nat → Nat} (RX : xl_R n N e l xk xw hx gx) {j rc rc' c s : Nat} {ql ql' : Nat → Nat} (h : rx_S N j gx rc ql) (hc : c < e) (lc : xk c ≠ -1) (inq : ∃ i, i < rc ∧ ql i = c) (h2 : ∀ i, i < rc → ql' i = ql i)
    (h3 : ∀ i, i < rc' → i < rc ∨ (ql' i = hx (md_p 0 c s) / 3 ∧ hx (md_p 0 c s) ≠ md_p 0 c s ∧ ¬ xl_E (hx (md_p 0 c s)))) (hs : s < 3) : rx_S N j gx rc' ql' := by
  intro S s1 s2 i hi
  rcases h3 i hi with w | ⟨w1, w2, w3⟩
  · rw [h2 i w]
    exact h S s1 s2 i w
  · obtain ⟨i0, hi0, e0⟩ := inq
    have sc : S (gx c) := e0 ▸ h S s1 s2 i0 hi0
    have r6 := RX.1.2.2.2.2.2.2.2
    have d : md_D 0 xl_E (md_v e xk) (md_p 0 c s) := by
      by_cases d : md_D 0 xl_E (md_v e xk) (md_p 0 c s)
      · exact d
      · exact absurd (r6.2 _ d) w2
    have q := rx_net RX d w3
    rw [md_Pp hs] at q
    have nE : ¬ xl_E (md_p 0 c s) := by
      intro z
      have := ((RX.1.2.2.2.2.2.1 _ z).1 (Nat.zero_le _)).2
      rw [md_pd hs] at this
      exact lc this
    have sv := (md_Di nE hs).mp d
    unfold md_v at sv
    rw [if_pos hc, ← RX.1.2.2.1 c hc lc] at sv
    rw [w1]
    exact s1 _ _ _ _ sv q.2 q.1 sc
section
variable {fc fs fl : Int32} {ak aw : Nat → Int32}
theorem rx_lp {post : Int32 → SX → Prop} {n : Nat} {N : fz_N} {e l : Nat} {xk xw : Nat → Int32} {hx gx : Nat → Nat} (RX : xl_R n N e l xk xw hx gx) (hn : n ≤ 120) {j : Nat}
    (H : ∀ rc ql ir re, rx_I e rc xk ir re ql → rx_C hx rc ql (30 + j) → (∀ i s, i < rc → s < 3 → rx_C hx rc ql (md_p 0 (ql i) s)) → rx_S N j gx rc ql → post (nI rc) (fc, nI e, fs, fl, nI rc, ak, aw, xk, xw, ir, re)) :
    ∀ d i rc ql ir re, i + d = 492 → rx_I e rc xk ir re ql → rx_C hx rc ql (30 + j) → (∀ i' s, i' < i → i' < rc → s < 3 → rx_C hx rc ql (md_p 0 (ql i') s)) → rx_S N j gx rc ql → wX_reach_38 post (d + 1) (nI i) fc (nI e) fs fl (nI rc) ak aw xk xw ir re := by
  have e4 := RX.2.2.2.2
  intro d
  induction d with
  | zero =>
    intro i rc ql ir re hi I st cl sd
    have rl := rx_le (fun i hi => (I.1 i hi).2.1) I.2.1
    exact br_t (nI_le (a := 492) (by omega) (by omega)) (H rc ql ir re I st (fun i' s h1 h2 => cl i' s (by omega) h1 h2) sd)
  | succ d ih =>
    intro i rc ql ir re hi I st cl sd
    have rl := rx_le (fun i hi => (I.1 i hi).2.1) I.2.1
    refine br_f (nI_ge (b := 492) (by omega) (by omega)) ?_
    by_cases z : rc ≤ i
    · exact br_t (nI_le z (by omega)) (H rc ql ir re I st (fun i' s h1 h2 => cl i' s (by omega) h1 h2) sd)
    · have a := I.1 i (by omega)
      rw [nI_clamp (show i < 2 ^ 31 by omega), a.1]
      refine br_f (nI_ge (by omega) (by omega)) ⟨vp_in_nI (by omega) (by omega), nm_e ?_⟩
      have inq0 : ∃ i', i' < rc ∧ ql i' = ql i := ⟨i, by omega, rfl⟩
      rw [xl_q1, xl_q2, xl_q0]
      obtain ⟨c, ec⟩ : ∃ c, c = ql i := ⟨_, rfl⟩
      rw [← ec] at a inq0 ⊢
      have pb0 : md_p 0 c 0 < 1476 := xl_pb (by omega) (by omega)
      have pb1 : md_p 0 c 1 < 1476 := xl_pb (by omega) (by omega)
      have pb2 : md_p 0 c 2 < 1476 := xl_pb (by omega) (by omega)
      rw [nI_clamp (show md_p 0 c 0 < 2 ^ 31 by omega), RX.2.1 _ pb0]
      refine ⟨vp_in_nI pb0 (by omega), ?_⟩
      have f0 := rx_far RX hn (s := 0) a.2.1 a.2.2 (by omega)
      have f1 := rx_far RX hn (s := 1) a.2.1 a.2.2 (by omega)
      have f2 := rx_far RX hn (s := 2) a.2.1 a.2.2 (by omega)
      refine rx_rp (by omega) I f0.1 f0.2 (fun rc1 ql1 ir1 re1 I1 l1 q1 c1 n1 => ?_)
      dsimp only
      rw [nI_clamp (show md_p 0 c 1 < 2 ^ 31 by omega), RX.2.1 _ pb1]
      refine ⟨vp_in_nI pb1 (by omega), ?_⟩
      have inq1 : ∃ i', i' < rc1 ∧ ql1 i' = c := ⟨i, by omega, by rw [q1 i (by omega), ec]⟩
      have sd1 := rx_Sm RX sd a.2.1 a.2.2 inq0 q1 n1 (by omega)
      refine rx_rp (by omega) I1 f1.1 f1.2 (fun rc2 ql2 ir2 re2 I2 l2 q2 c2 n2 => ?_)
      dsimp only
      rw [nI_clamp (show md_p 0 c 2 < 2 ^ 31 by omega), RX.2.1 _ pb2]
      refine ⟨vp_in_nI pb2 (by omega), ?_⟩
      have inq2 : ∃ i', i' < rc2 ∧ ql2 i' = c := ⟨i, by omega, by rw [q2 i (by omega), q1 i (by omega), ec]⟩
      have sd2 := rx_Sm RX sd1 a.2.1 a.2.2 inq1 q2 n2 (by omega)
      refine rx_rp (by omega) I2 f2.1 f2.2 (fun rc3 ql3 ir3 re3 I3 l3 q3 c3 n3 => ?_)
      dsimp only
      have sd3 := rx_Sm RX sd2 a.2.1 a.2.2 inq2 q3 n3 (by omega)
      have q13 : ∀ i', i' < rc → ql3 i' = ql i' := fun i' h => by rw [q3 i' (by omega), q2 i' (by omega), q1 i' h]
      refine nm_r (nI_1 i) (ih (i + 1) rc3 ql3 ir3 re3 (by omega) I3 (rx_Cm st (by omega) q13) (fun i' s h1 h2 h3 => ?_) sd3)
      by_cases ei : i' = i
      · rw [ei, q13 i (by omega), ← ec]
        have s3 : s = 0 ∨ s = 1 ∨ s = 2 := by omega
        rcases s3 with rfl | rfl | rfl
        · exact rx_Cm (rx_Cm (rc := rc1) (ql := ql1) c1 l2 q2) l3 q3
        · exact rx_Cm (rc := rc2) (ql := ql2) c2 l3 q3
        · exact c3
      · rw [q13 i' (by omega)]
        exact rx_Cm (cl i' s (by omega) (by omega) h3) (by omega) q13
/-- the component's reach, from a net at rest -/
theorem rx_all {post : Int32 → SX → Prop} {n : Nat} {N : fz_N} {e l : Nat} {xk xw : Nat → Int32} {hx gx : Nat → Nat} (RX : xl_R n N e l xk xw hx gx) (hn : n ≤ 120) {j : Nat} (hj : j < 4) {fr : Int32} {ir re : Nat → Int32}
    (H : ∀ rc ql ir re, rc ≤ e → (∀ i, i < rc → ql i < e ∧ xk (ql i) ≠ -1) → (∀ i i', i < rc → i' < rc → ql i = ql i' → i = i') → rc_cl N (rx_V gx rc ql) → rc_st N j (rx_V gx rc ql) → rx_S N j gx rc ql → post (nI rc) (fc, nI e, fs, fl, nI rc, ak, aw, xk, xw, ir, re)) :
    wpX_forgetReached (fun u => (vp_in (nI (30 + j)) 1476 ∧ wpX_reachPort (fun u => ∃ n38 : Nat, wX_reach_38 post n38 0 u.1 u.2.1 u.2.2.1 u.2.2.2.1 u.2.2.2.2.1 u.2.2.2.2.2.1 u.2.2.2.2.2.2.1 u.2.2.2.2.2.2.2.1 u.2.2.2.2.2.2.2.2.1 u.2.2.2.2.2.2.2.2.2.1 u.2.2.2.2.2.2.2.2.2.2)
      (u.1, u.2.1, u.2.2.1, u.2.2.2.1, u.2.2.2.2.1, u.2.2.2.2.2.1, u.2.2.2.2.2.2.1, u.2.2.2.2.2.2.2.1, u.2.2.2.2.2.2.2.2.1, u.2.2.2.2.2.2.2.2.2.1, u.2.2.2.2.2.2.2.2.2.2) (u.2.2.2.2.2.2.2.2.1 (nI (30 + j)).toNatClampNeg))) (fc, nI e, fs, fl, fr, ak, aw, xk, xw, ir, re) := by
  have e4 := RX.2.2.2.2
  refine rx_fg (fun ir0 h0 => ?_)
  dsimp only
  rw [nI_clamp (by omega), RX.2.1 _ (by omega)]
  refine ⟨vp_in_nI (by omega) (by omega), ?_⟩
  have f0 := rx_farE RX hn hj
  have dE : md_D 0 xl_E (md_v e xk) (30 + j) := Or.inl ⟨by omega, by omega⟩
  have eE : xl_E (30 + j) := ⟨by omega, by omega⟩
  have PE : md_P 0 xl_U gx (30 + j) = yl_U j := by
    rw [(RX.1.2.2.2.2.2.1 _ eE).2.2.2]
    unfold xl_U yl_U
    split <;> omega
  have I0 : rx_I e 0 xk ir0 re (fun _ => 0) := ⟨fun i hi => by omega, fun i i' hi => by omega, fun c hc => Or.inl ⟨h0 c hc, fun i hi => by omega⟩⟩
  refine rx_rp (rc := 0) (by omega) I0 f0.1 f0.2 (fun rc1 ql1 ir1 re1 I1 l1 q1 c1 n1 => ?_)
  dsimp only
  refine ⟨493, ?_⟩
  refine rx_lp RX hn (j := j) (fun rc ql ir re I st cl sd => ?_) 492 0 rc1 ql1 ir1 re1 (by omega) I1 c1 (fun i' s h => by omega) (fun S s1 s2 i hi => ?_)
  · refine H rc ql ir re (rx_le (fun i hi => (I.1 i hi).2.1) I.2.1) (fun i hi => (I.1 i hi).2) I.2.1 ?_ ?_ sd
    · intro a s b t hs ht ew va
      obtain ⟨i, hi, ea⟩ := va
      have li := (I.1 i hi).2
      have s3 : s < 3 := by
        have := md_pk_3 (N.1 a)
        omega
      have D : md_D 0 xl_E (md_v e xk) (md_p 0 (ql i) s) := by
        refine md_Dp ?_ s3
        unfold md_v
        rw [if_pos li.1, ← RX.1.2.2.1 _ li.1 li.2, ea]
        exact hs
      obtain ⟨c, h1, h2, h3, h4, t3⟩ := rx_back RX D ht (by rw [md_Pp s3, ea]; exact ew)
      by_cases own : hx (md_p 0 (ql i) s) = md_p 0 (ql i) s
      · rw [own] at h4
        have := ((md_pe s3 t3).mp h4).1
        exact ⟨i, hi, by rw [this]; exact h3⟩
      · have nE : ¬ xl_E (hx (md_p 0 (ql i) s)) := by
          intro z
          rw [h4] at z
          have := ((RX.1.2.2.2.2.2.1 _ z).1 (Nat.zero_le _)).2
          rw [md_pd t3] at this
          exact h2 this
        obtain ⟨i2, hi2, e2⟩ := cl i s hi s3 own nE
        refine ⟨i2, hi2, ?_⟩
        rw [e2, h4, show md_p 0 c t / 3 = c by unfold md_p; omega]
        exact h3
    · intro b t ht ew
      obtain ⟨c, h1, h2, h3, h4, t3⟩ := rx_back RX dE ht (by rw [PE]; exact ew)
      have nE : ¬ xl_E (hx (30 + j)) := by
        intro z
        rw [h4] at z
        have := ((RX.1.2.2.2.2.2.1 _ z).1 (Nat.zero_le _)).2
        rw [md_pd t3] at this
        exact h2 this
      obtain ⟨i2, hi2, e2⟩ := st (fun z => nE (by rw [z]; exact eE)) nE
      refine ⟨i2, hi2, ?_⟩
      rw [e2, h4, show md_p 0 c t / 3 = c by unfold md_p; omega]
      exact h3
  · rcases n1 i hi with w | ⟨w1, w2, w3⟩
    · omega
    · have q := rx_net RX dE w3
      rw [PE] at q
      rw [w1]
      exact s2 _ _ q.2 q.1
end
