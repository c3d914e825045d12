/-! the reference's list of wires -/
def yl_G (m : Nat) (f s h : Nat → Nat) : Prop :=
  (∀ i, i < m → f i < 2000 ∧ s i < 2000 ∧ f i ≠ s i ∧ h (f i) = s i ∧ h (s i) = f i) ∧ (∀ p, h p ≠ p → ∃ i, i < m ∧ (f i = p ∨ s i = p)) ∧
  (∀ i j, i < m → j < m → f i = f j → i = j) ∧ (∀ i j, i < m → j < m → f i ≠ s j)
def yl_A (m : Nat) (fs ss : Nat → Int32) (f s : Nat → Nat) : Prop := ∀ i, i < m → fs i = nI (f i) ∧ ss i = nI (s i)
def yl_W (m : Nat) (fs ss : Nat → Int32) (h : Nat → Nat) : Prop := ∃ f s : Nat → Nat, yl_A m fs ss f s ∧ yl_G m f s h
def yl_C (h : Nat → Nat) (p q x : Nat) : Nat := if x = p then p else if x = q then q else h x
theorem yl_ss {m : Nat} {f s h : Nat → Nat} (G : yl_G m f s h) {i j : Nat} (hi : i < m) (hj : j < m) (e : s i = s j) : i = j := by
  refine G.2.2.1 i j hi hj ?_
  rw [← (G.1 i hi).2.2.2.2, ← (G.1 j hj).2.2.2.2, e]
theorem yl_Gt {m : Nat} {f s h : Nat → Nat} (G : yl_G m f s h) {i : Nat} (hi : i < m) :
    yl_G (m - 1) (fun j => f (if j = i then m - 1 else j)) (fun j => s (if j = i then m - 1 else j)) (yl_C h (f i) (s i)) := by
  have sg : ∀ j, j < m - 1 → (if j = i then m - 1 else j) < m ∧ (if j = i then m - 1 else j) ≠ i := by
    intro j hj
    split <;> omega
  refine ⟨fun j hj => ?_, fun p hp => ?_, fun j j' hj hj' e => ?_, fun j j' hj hj' => ?_⟩
  · obtain ⟨q1, q2⟩ := sg j hj
    have a := G.1 _ q1
    have b := G.1 i hi
    have n1 : f (if j = i then m - 1 else j) ≠ f i := fun z => q2 (G.2.2.1 _ _ q1 hi z)
    have n2 : f (if j = i then m - 1 else j) ≠ s i := G.2.2.2 _ _ q1 hi
    have n3 : s (if j = i then m - 1 else j) ≠ f i := fun z => G.2.2.2 _ _ hi q1 z.symm
    have n4 : s (if j = i then m - 1 else j) ≠ s i := fun z => q2 (yl_ss G q1 hi z)
    refine ⟨a.1, a.2.1, a.2.2.1, ?_, ?_⟩
    · unfold yl_C
      rw [if_neg n1, if_neg n2]
      exact a.2.2.2.1
    · unfold yl_C
      rw [if_neg n3, if_neg n4]
      exact a.2.2.2.2
  · unfold yl_C at hp
    by_cases c1 : p = f i
    · rw [if_pos c1] at hp
      exact absurd c1.symm hp
    · rw [if_neg c1] at hp
      by_cases c2 : p = s i
      · rw [if_pos c2] at hp
        exact absurd c2.symm hp
      · rw [if_neg c2] at hp
        obtain ⟨k, hk, ek⟩ := G.2.1 p hp
        have ki : k ≠ i := by
          intro z
          subst z
          exact ek.elim (fun z => c1 z.symm) (fun z => c2 z.symm)
        refine ⟨if k = m - 1 then i else k, ?_, ?_⟩
        · split <;> omega
        · have e : (if (if k = m - 1 then i else k) = i then m - 1 else (if k = m - 1 then i else k)) = k := by
            by_cases z : k = m - 1
            · rw [if_pos z, if_pos rfl, z]
            · rw [if_neg z, if_neg ki]
          show f _ = p ∨ s _ = p
          rw [e]
          exact ek
  · have e' := G.2.2.1 _ _ (sg j hj).1 (sg j' hj').1 e
    revert e'
    split <;> split <;> omega
  · exact G.2.2.2 _ _ (sg j hj).1 (sg j' hj').1
theorem yl_At {m : Nat} {fs ss : Nat → Int32} {f s : Nat → Nat} (A : yl_A m fs ss f s) {i : Nat} (hi : i < m) :
    yl_A (m - 1) (upd fs i (fs (m - 1))) (upd ss i (ss (m - 1))) (fun j => f (if j = i then m - 1 else j)) (fun j => s (if j = i then m - 1 else j)) := by
  intro j hj
  dsimp only
  by_cases c : j = i
  · rw [if_pos c, c, pk_us, pk_us]
    exact A (m - 1) (by omega)
  · rw [if_neg c, pk_un c, pk_un c]
    exact A j (by omega)
theorem yl_Ga {m : Nat} {f s h : Nat → Nat} (G : yl_G m f s h) {p q : Nat} (hp : h p = p) (hq : h q = q) (hpq : p ≠ q) (p2 : p < 2000) (q2 : q < 2000) :
    yl_G (m + 1) (fun j => if j = m then p else f j) (fun j => if j = m then q else s j) (md_J h p q) := by
  have nf : ∀ j, j < m → f j ≠ p ∧ f j ≠ q ∧ s j ≠ p ∧ s j ≠ q := by
    intro j hj
    have a := G.1 j hj
    refine ⟨fun z => a.2.2.1 ?_, fun z => a.2.2.1 ?_, fun z => a.2.2.1 ?_, fun z => a.2.2.1 ?_⟩
    · rw [← a.2.2.2.1, z, hp]
    · rw [← a.2.2.2.1, z, hq]
    · rw [← a.2.2.2.2, z, hp]
    · rw [← a.2.2.2.2, z, hq]
  have nqp : ¬ q = p := fun z => hpq z.symm
  refine ⟨fun j hj => ?_, fun x hx => ?_, fun j j' hj hj' e => ?_, fun j j' hj hj' e => ?_⟩
  · by_cases c : j = m
    · dsimp only
      unfold md_J
      rw [if_pos c, if_pos c, if_pos rfl, if_neg nqp, if_pos rfl]
      exact ⟨p2, q2, hpq, rfl, rfl⟩
    · have a := G.1 j (by omega)
      have n := nf j (by omega)
      dsimp only
      unfold md_J
      rw [if_neg c, if_neg c, if_neg n.1, if_neg n.2.1, if_neg n.2.2.1, if_neg n.2.2.2]
      exact a
  · unfold md_J at hx
    by_cases c1 : x = p
    · exact ⟨m, by omega, Or.inl (by dsimp only; rw [if_pos rfl, c1])⟩
    · by_cases c2 : x = q
      · exact ⟨m, by omega, Or.inr (by dsimp only; rw [if_pos rfl, c2])⟩
      · rw [if_neg c1, if_neg c2] at hx
        obtain ⟨i, hi, ei⟩ := G.2.1 x hx
        refine ⟨i, by omega, ?_⟩
        dsimp only
        rw [if_neg (by omega), if_neg (by omega)]
        exact ei
  · dsimp only at e
    by_cases c : j = m
    · by_cases d : j' = m
      · omega
      · rw [if_pos c, if_neg d] at e
        exact absurd e.symm (nf j' (by omega)).1
    · by_cases d : j' = m
      · rw [if_neg c, if_pos d] at e
        exact absurd e (nf j (by omega)).1
      · rw [if_neg c, if_neg d] at e
        exact G.2.2.1 j j' (by omega) (by omega) e
  · dsimp only at e
    by_cases c : j = m
    · by_cases d : j' = m
      · rw [if_pos c, if_pos d] at e
        exact hpq e
      · rw [if_pos c, if_neg d] at e
        exact (nf j' (by omega)).2.2.1 e.symm
    · by_cases d : j' = m
      · rw [if_neg c, if_pos d] at e
        exact (nf j (by omega)).2.1 e
      · rw [if_neg c, if_neg d] at e
        exact G.2.2.2 j j' (by omega) (by omega) e
theorem yl_Aa {m : Nat} {fs ss : Nat → Int32} {f s : Nat → Nat} (A : yl_A m fs ss f s) {p q : Nat} :
    yl_A (m + 1) (upd fs m (nI p)) (upd ss m (nI q)) (fun j => if j = m then p else f j) (fun j => if j = m then q else s j) := by
  intro j hj
  dsimp only
  by_cases c : j = m
  · rw [if_pos c, if_pos c, c, pk_us, pk_us]
    exact ⟨rfl, rfl⟩
  · rw [if_neg c, if_neg c, pk_un c, pk_un c]
    exact A j (by omega)
theorem yl_Gf {m : Nat} {f s h : Nat → Nat} (G : yl_G m f s h) {i t : Nat} (hi : i < m) (ht : h t = t) (t2 : t < 2000) :
    yl_G m (fun j => if j = i then t else f j) s (md_M h (f i) t) := by
  have nt : ∀ j, j < m → f j ≠ t ∧ s j ≠ t := by
    intro j hj
    have a := G.1 j hj
    refine ⟨fun z => a.2.2.1 ?_, fun z => a.2.2.1 ?_⟩
    · rw [← a.2.2.2.1, z, ht]
    · rw [← a.2.2.2.2, z, ht]
  have b := G.1 i hi
  have ntf : ¬ t = f i := fun z => (nt i hi).1 z.symm
  have nsf : ¬ s i = f i := fun z => b.2.2.1 z.symm
  refine ⟨fun j hj => ?_, fun x hx => ?_, fun j j' hj hj' e => ?_, fun j j' hj hj' e => ?_⟩
  · have a := G.1 j hj
    by_cases c : j = i
    · subst c
      dsimp only
      rw [if_pos rfl]
      refine ⟨t2, a.2.1, fun z => (nt j hj).2 z.symm, ?_, ?_⟩
      · unfold md_M
        rw [if_neg ntf, if_pos rfl, a.2.2.2.1, if_neg nsf]
      · unfold md_M
        rw [if_neg nsf, if_neg (nt j hj).2, a.2.2.2.2, if_pos rfl]
    · dsimp only
      rw [if_neg c]
      have n1 : ¬ f j = f i := fun z => c (G.2.2.1 j i hj hi z)
      have n2 : ¬ s j = f i := fun z => G.2.2.2 i j hi hj z.symm
      refine ⟨a.1, a.2.1, a.2.2.1, ?_, ?_⟩
      · unfold md_M
        rw [if_neg n1, if_neg (nt j hj).1, a.2.2.2.1, if_neg n2]
      · unfold md_M
        rw [if_neg n2, if_neg (nt j hj).2, a.2.2.2.2, if_neg n1]
  · unfold md_M at hx
    by_cases c1 : x = f i
    · rw [if_pos c1] at hx
      exact absurd c1.symm hx
    · rw [if_neg c1] at hx
      by_cases c2 : x = t
      · exact ⟨i, hi, Or.inl (by dsimp only; rw [if_pos rfl, c2])⟩
      · rw [if_neg c2] at hx
        have hx' : h x ≠ x := by
          intro z
          rw [z, if_neg c1] at hx
          exact hx rfl
        obtain ⟨k, hk, ek⟩ := G.2.1 x hx'
        refine ⟨k, hk, ?_⟩
        dsimp only
        by_cases c : k = i
        · subst c
          exact ek.elim (fun z => absurd z.symm c1) Or.inr
        · rw [if_neg c]
          exact ek
  · dsimp only at e
    by_cases c : j = i
    · by_cases d : j' = i
      · omega
      · rw [if_pos c, if_neg d] at e
        exact absurd e.symm (nt j' hj').1
    · by_cases d : j' = i
      · rw [if_neg c, if_pos d] at e
        exact absurd e (nt j hj).1
      · rw [if_neg c, if_neg d] at e
        exact G.2.2.1 j j' hj hj' e
  · dsimp only at e
    by_cases c : j = i
    · rw [if_pos c] at e
      exact (nt j' hj').2 e.symm
    · rw [if_neg c] at e
      exact G.2.2.2 j j' hj hj' e
/-- the list read the other way round -/
theorem yl_Gr {m : Nat} {f s h : Nat → Nat} (G : yl_G m f s h) : yl_G m s f h := by
  refine ⟨fun i hi => ?_, fun p hp => ?_, fun i j hi hj e => yl_ss G hi hj e, fun i j hi hj e => G.2.2.2 j i hj hi e.symm⟩
  · have a := G.1 i hi
    exact ⟨a.2.1, a.1, fun z => a.2.2.1 z.symm, a.2.2.2.2, a.2.2.2.1⟩
  · obtain ⟨i, hi, e⟩ := G.2.1 p hp
    exact ⟨i, hi, e.symm⟩
theorem yl_Af {m : Nat} {fs ss : Nat → Int32} {f s : Nat → Nat} (A : yl_A m fs ss f s) {i t : Nat} : yl_A m (upd fs i (nI t)) ss (fun j => if j = i then t else f j) s := by
  intro j hj
  dsimp only
  by_cases c : j = i
  · rw [if_pos c, c, pk_us]
    exact ⟨rfl, (A i (by omega)).2⟩
  · rw [if_neg c, pk_un c]
    exact A j hj
theorem yl_Ar {m : Nat} {fs ss : Nat → Int32} {f s : Nat → Nat} (A : yl_A m fs ss f s) : yl_A m ss fs s f := fun i hi => ⟨(A i hi).2, (A i hi).1⟩
theorem yl_Wr {m : Nat} {fs ss : Nat → Int32} {h : Nat → Nat} (W : yl_W m fs ss h) : yl_W m ss fs h := by
  obtain ⟨f, s, A, G⟩ := W
  exact ⟨s, f, yl_Ar A, yl_Gr G⟩
section
variable {gc gw ge gl gs : Int32} {bk bf bs rk rf rs mt : Nat → Int32}
theorem yl_wo {post : Int32 → Prop} {m q : Nat} {f s h : Nat → Nat} (hm : m ≤ 520) (hq : q < 2000) (A : yl_A m rf rs f s) (G : yl_G m f s h) (h0 : h q = q → post (-1)) (h1 : ∀ i, i < m → (f i = q ∨ (f i ≠ q ∧ s i = q)) → post (nI i)) :
    wpY_runWireOf post (gc, gw, ge, nI m, gl, gs, bk, bf, bs, rk, rf, rs, mt) (nI q) := by
  have key : ∀ d i, i + d = m → (∀ j, j < i → f j ≠ q ∧ s j ≠ q) → wY_runWireOf_2 post (nI q) gc gw ge (nI m) gl gs bk bf bs rk rf rs mt (d + 1) (nI i) := by
    intro d
    induction d with
    | zero =>
      intro i hi hj
      refine br_t (nI_le (by omega) (by omega)) (h0 ?_)
      by_cases z : h q = q
      · exact z
      · obtain ⟨j, hjm, e⟩ := G.2.1 q z
        have := hj j (by omega)
        exact absurd e (fun e => e.elim this.1 this.2)
    | succ d ih =>
      intro i hi hj
      have a := A i (by omega)
      have b := G.1 i (by omega)
      refine br_f (nI_ge (by omega) (by omega)) ⟨vp_in_nI (by omega) (by omega), ?_⟩
      rw [nI_clamp (show i < 2 ^ 31 by omega), a.1, a.2]
      by_cases c : f i = q
      · exact br_t (by rw [c]) (h1 i (by omega) (Or.inl c))
      · refine br_f (fun z => c ((nI_eq (by omega) (by omega)).mp z)) ⟨vp_in_nI (by omega) (by omega), ?_⟩
        by_cases d : s i = q
        · exact br_t (by rw [d]) (h1 i (by omega) (Or.inr ⟨c, d⟩))
        · refine br_f (fun z => d ((nI_eq (by omega) (by omega)).mp z)) (nm_r (nI_1 i) (ih (i + 1) (by omega) (fun j hj' => ?_)))
          by_cases e : j = i
          · rw [e]; exact ⟨c, d⟩
          · exact hj j (by omega)
  exact ⟨_, key m 0 (by omega) (fun j hj => by omega)⟩
theorem yl_ac {post : Int32 → Prop} {m q : Nat} {h : Nat → Nat} (hm : m ≤ 520) (hq : q < 2000) (W : yl_W m rf rs h) (H : post (md_fo q (h q))) : wpY_across post (gc, gw, ge, nI m, gl, gs, bk, bf, bs, rk, rf, rs, mt) (nI q) := by
  obtain ⟨f, s, A, G⟩ := W
  unfold wpY_across
  dsimp only
  refine yl_wo hm hq A G (fun z => ?_) (fun i hi z => ?_)
  · rw [z, md_fo_s] at H
    exact br_f (by decide) H
  · have a := A i hi
    have b := G.1 i hi
    refine br_t (nI_pos' (by omega)) ⟨vp_in_nI (by omega) (by omega), ?_⟩
    rw [nI_clamp (show i < 2 ^ 31 by omega), a.1, a.2]
    rcases z with z | ⟨z1, z2⟩
    · refine br_t (by rw [z]) ⟨vp_in_nI (by omega) (by omega), ?_⟩
      rw [← z, b.2.2.2.1, md_fo_n (fun z => b.2.2.1 z.symm)] at H
      exact H
    · refine br_f (fun z => z1 ((nI_eq (by omega) (by omega)).mp z)) ⟨vp_in_nI (by omega) (by omega), ?_⟩
      rw [← z2, b.2.2.2.2, md_fo_n b.2.2.1] at H
      exact H
theorem yl_tw {post : SY → Prop} {m i : Nat} {f s h : Nat → Nat} (hm : m ≤ 520) (hi : i < m) (A : yl_A m rf rs f s) (G : yl_G m f s h)
    (H : ∀ rf' rs', yl_W (m - 1) rf' rs' (yl_C h (f i) (s i)) → post (gc, gw, ge, nI (m - 1), gl, gs, bk, bf, bs, rk, rf', rs', mt)) : wpY_takeWire post (gc, gw, ge, nI m, gl, gs, bk, bf, bs, rk, rf, rs, mt) (nI i) := by
  unfold wpY_takeWire
  dsimp only
  have e1 : nI m - 1 = nI (m - 1) := by
    have := nI_pred (m - 1)
    rw [show m - 1 + 1 = m by omega] at this
    exact this
  rw [e1]
  refine nm_e ?_
  rw [nI_clamp (show i < 2 ^ 31 by omega), nI_clamp (show m - 1 < 2 ^ 31 by omega)]
  exact ⟨vp_in_nI (by omega) (by omega), vp_in_nI (by omega) (by omega), nm_e ⟨vp_in_nI (by omega) (by omega), vp_in_nI (by omega) (by omega), nm_e (H _ _ ⟨_, _, yl_At A hi, yl_Gt G hi⟩)⟩⟩
theorem yl_aw {post : SY → Prop} {m p q : Nat} {h : Nat → Nat} (hm : m < 520) (W : yl_W m rf rs h) (hp : h p = p) (hq : h q = q) (hpq : p ≠ q) (p2 : p < 2000) (q2 : q < 2000)
    (H : ∀ rf' rs', yl_W (m + 1) rf' rs' (md_J h p q) → post (gc, gw, ge, nI (m + 1), gl, gs, bk, bf, bs, rk, rf', rs', mt)) : wpY_addWire post (gc, gw, ge, nI m, gl, gs, bk, bf, bs, rk, rf, rs, mt) (nI p) (nI q) := by
  obtain ⟨f, s, A, G⟩ := W
  unfold wpY_addWire
  dsimp only
  rw [nI_clamp (show m < 2 ^ 31 by omega), xl_a1]
  exact ⟨vp_in_nI hm (by omega), nm_e ⟨vp_in_nI hm (by omega), nm_e (nm_e (H _ _ ⟨_, _, yl_Aa A, yl_Ga G hp hq hpq p2 q2⟩))⟩⟩
theorem yl_Mo {h : Nat → Nat} {p t : Nat} (hi : fz_I h) (hp : h p = p) (ht : h t = t) : md_M h p t = h := by
  funext x
  have hx := hi x
  unfold md_M
  grind
theorem yl_mv {post : SY → Prop} {m p t : Nat} {h : Nat → Nat} (hm : m ≤ 520) (W : yl_W m rf rs h) (hi : fz_I h) (p2 : p < 2000) (t2 : t < 2000) (ht : h t = t)
    (H : ∀ rf' rs', yl_W m rf' rs' (md_M h p t) → post (gc, gw, ge, nI m, gl, gs, bk, bf, bs, rk, rf', rs', mt)) : wpY_move post (gc, gw, ge, nI m, gl, gs, bk, bf, bs, rk, rf, rs, mt) (nI p) (nI t) := by
  obtain ⟨f, s, A, G⟩ := W
  unfold wpY_move
  dsimp only
  refine yl_wo hm p2 A G (fun z => ?_) (fun i hi' z => ?_)
  · refine br_t (by decide) ?_
    unfold wY_move_30
    refine br_t (by decide) (H _ _ ?_)
    rw [yl_Mo hi z ht]
    exact ⟨f, s, A, G⟩
  · have a := A i hi'
    have b := G.1 i hi'
    refine br_f (nI_pos (by omega)) ⟨vp_in_nI (by omega) (by omega), ?_⟩
    rw [nI_clamp (show i < 2 ^ 31 by omega), a.1]
    rcases z with z | ⟨z1, z2⟩
    · refine br_t (by rw [z]) ⟨vp_in_nI (by omega) (by omega), nm_e (H _ _ ?_)⟩
      rw [← z]
      exact ⟨_, _, yl_Af A, yl_Gf G hi' ht t2⟩
    · refine br_f (fun z => z1 ((nI_eq (by omega) (by omega)).mp z)) ?_
      unfold wY_move_30
      refine br_f (nI_pos (by omega)) ⟨vp_in_nI (by omega) (by omega), ?_⟩
      rw [nI_clamp (show i < 2 ^ 31 by omega)]
      refine nm_e (H _ _ ?_)
      rw [← z2]
      exact ⟨_, _, yl_Ar (yl_Af (yl_Ar A)), yl_Gr (yl_Gf (yl_Gr G) hi' ht t2)⟩
theorem yl_Ce {h : Nat → Nat} {p q : Nat} (hpq : p ≠ q) : yl_C h q p = yl_C h p q := by
  funext x
  unfold yl_C
  grind
theorem yl_Cl {h : Nat → Nat} {p q : Nat} (hi : fz_I h) (hpq : p ≠ q) (e : h p = q) : yl_C h p q = fz_F h p q := by
  funext x
  have hx := hi x
  have hp := hi p
  unfold yl_C fz_F
  grind
theorem yl_C0 {h : Nat → Nat} {p q : Nat} (hi : fz_I h) (hpq : p ≠ q) (e : h p = p) (d : h q = q) : h = fz_F h p q := by
  funext x
  have hx := hi x
  unfold fz_F
  grind
theorem yl_C1 {h : Nat → Nat} {p q : Nat} (hi : fz_I h) (hpq : p ≠ q) (e : h p = p) (d : h q ≠ q) : yl_C h q (h q) = fz_F h p q := by
  funext x
  have hx := hi x
  have hq := hi q
  unfold yl_C fz_F
  grind
theorem yl_C2 {h : Nat → Nat} {p q : Nat} (hi : fz_I h) (hpq : p ≠ q) (b : h p ≠ q) (e : h p ≠ p) (d : h q = q) : yl_C h p (h p) = fz_F h p q := by
  funext x
  have hx := hi x
  have hp := hi p
  unfold yl_C fz_F
  grind
theorem yl_C3 {h : Nat → Nat} {p q : Nat} (hi : fz_I h) (hpq : p ≠ q) (b : h p ≠ q) (e : h p ≠ p) (d : h q ≠ q) : md_J (yl_C (yl_C h p (h p)) q (h q)) (h p) (h q) = fz_F h p q := by
  funext x
  have hx := hi x
  have hp := hi p
  have hq := hi q
  unfold md_J yl_C fz_F
  grind
theorem yl_C4 {h : Nat → Nat} {p q : Nat} (b : h p ≠ q) (hpq : p ≠ q) : yl_C h p (h p) q = h q := by
  unfold yl_C
  rw [if_neg (fun z => hpq z.symm), if_neg (fun z => b z.symm)]
/-- a port's wire, if it has one, is taken away -/
theorem yl_dr {K : Int32 → Prop} {m p : Nat} {h : Nat → Nat} {Q : SY → Prop} (hm : m ≤ 520) (p2 : p < 2000) (W : yl_W m rf rs h)
    (h0 : h p = p → Q (gc, gw, ge, nI m, gl, gs, bk, bf, bs, rk, rf, rs, mt)) (h1 : h p ≠ p → 1 ≤ m → ∀ rf' rs', yl_W (m - 1) rf' rs' (yl_C h p (h p)) → Q (gc, gw, ge, nI (m - 1), gl, gs, bk, bf, bs, rk, rf', rs', mt))
    (hK0 : Q (gc, gw, ge, nI m, gl, gs, bk, bf, bs, rk, rf, rs, mt) → K (-1)) (hK1 : ∀ i, i < m → wpY_takeWire Q (gc, gw, ge, nI m, gl, gs, bk, bf, bs, rk, rf, rs, mt) (nI i) → K (nI i)) : wpY_runWireOf K (gc, gw, ge, nI m, gl, gs, bk, bf, bs, rk, rf, rs, mt) (nI p) := by
  obtain ⟨f, s, A, G⟩ := W
  refine yl_wo hm p2 A G (fun z => hK0 (h0 z)) (fun i hi' z => hK1 i hi' ?_)
  have b := G.1 i hi'
  refine yl_tw hm hi' A G (fun rf' rs' W' => ?_)
  rcases z with z | ⟨z1, z2⟩
  · have e : h p = s i := by rw [← z]; exact b.2.2.2.1
    rw [z] at W'
    refine h1 (fun z' => b.2.2.1 ?_) (by omega) rf' rs' ?_
    · rw [z, ← e, z']
    · rw [e]; exact W'
  · have e : h p = f i := by rw [← z2]; exact b.2.2.2.2
    rw [z2, ← e] at W'
    refine h1 (fun z' => z1 ?_) (by omega) rf' rs' ?_
    · rw [← e, z']
    · rw [← yl_Ce (fun z' => z1 (e ▸ z'.symm))]; exact W'
end
