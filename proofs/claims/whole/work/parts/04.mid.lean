/-! the middle level: far ports of concrete ports, tied to a net by a port map -/
def md_fo (x q : Nat) : Int32 := if q = x then -1 else nI q
def md_pk (k : Int32) : Nat := if k = 0 then 3 else if k = 1 then 3 else if k = 2 then 1 else 0
def md_M (h : Nat → Nat) (p t x : Nat) : Nat := if x = p then p else if x = t then (if h p = p then t else h p) else if h x = p then t else h x
def md_J (h : Nat → Nat) (s t x : Nat) : Nat := if x = s then t else if x = t then s else h x
def md_HR (D : Nat → Prop) (P h w : Nat → Nat) : Prop := (∀ p, D p → D (h p) ∧ w (P p) = P (h p)) ∧ ∀ p, ¬ D p → h p = p
def md_B (B : Nat → Prop) (P : Nat → Nat) : Prop := (∀ x y, B x → B y → P x = P y → x = y) ∧ ∀ x, B x → P x % 6 < 3
theorem md_hi {B D : Nat → Prop} {P h w : Nat → Nat} (hB : md_B B P) (hD : ∀ x, D x → B x) (hw : fz_I w) (H : md_HR D P h w) : fz_I h := by
  intro x
  by_cases dx : D x
  · have a := H.1 x dx
    have b := H.1 (h x) a.1
    refine hB.1 _ _ (hD _ b.1) (hD _ dx) ?_
    rw [← b.2, ← a.2]
    exact hw _
  · have a := H.2 x dx
    rw [a, a]
theorem md_HF {B D : Nat → Prop} {P h w : Nat → Nat} (hB : md_B B P) (hD : ∀ x, D x → B x) (hw : fz_I w) (H : md_HR D P h w) {p q : Nat} (hp : D p) (hq : D q) (hpq : p ≠ q)
    {pp qq : Nat} (ep : P p = pp) (eq : P q = qq) :
    md_HR (fun x => D x ∧ x ≠ p ∧ x ≠ q) P (fz_F h p q) (fz_F w pp qq) ∧ fz_L w pp qq = fz_L h p q := by
  subst ep eq
  have hh := md_hi hB hD hw H
  have ij : ∀ x y, D x → D y → (P x = P y ↔ x = y) := fun x y dx dy => ⟨hB.1 x y (hD x dx) (hD y dy), fun e => e ▸ rfl⟩
  have ap := H.1 p hp
  have aq := H.1 q hq
  have jp := ij _ _ ap.1 hp
  have jq := ij _ _ aq.1 hq
  have jpq := ij _ _ ap.1 hq
  have hhq := hh q
  have hhp := hh p
  refine ⟨⟨fun x hx => ?_, fun x hx => ?_⟩, ?_⟩
  · obtain ⟨dx, n1, n2⟩ := hx
    have ax := H.1 x dx
    have j1 := ij _ _ dx hp
    have j2 := ij _ _ dx hq
    have j3 := ij _ _ ax.1 hp
    have j4 := ij _ _ ax.1 hq
    have hhx := hh x
    unfold fz_F
    rw [ax.2, ap.2, aq.2]
    simp only [j1, j2, j3, j4, jp, jq]
    have dp := ap.1
    have dq := aq.1
    have dx' := ax.1
    rw [if_neg n1, if_neg n2, if_neg n1, if_neg n2]
    by_cases c1 : h x = p
    · rw [if_pos c1, if_pos c1]
      by_cases c2 : h q = q
      · rw [if_pos c2, if_pos c2]
        exact ⟨⟨dx, n1, n2⟩, rfl⟩
      · rw [if_neg c2, if_neg c2]
        refine ⟨⟨dq, fun z => n2 ?_, c2⟩, rfl⟩
        rw [← hhx, c1, ← z, hhq]
    · rw [if_neg c1, if_neg c1]
      by_cases c3 : h x = q
      · rw [if_pos c3, if_pos c3]
        by_cases c2 : h p = p
        · rw [if_pos c2, if_pos c2]
          exact ⟨⟨dx, n1, n2⟩, rfl⟩
        · rw [if_neg c2, if_neg c2]
          refine ⟨⟨dp, c2, fun z => n1 ?_⟩, rfl⟩
          rw [← hhx, c3, ← z, hhp]
      · rw [if_neg c3, if_neg c3]
        exact ⟨⟨dx', c1, c3⟩, rfl⟩
  · unfold fz_F
    by_cases c1 : x = p
    · rw [if_pos c1, c1]
    · by_cases c2 : x = q
      · rw [if_neg c1, if_pos c2, c2]
      · have dx : ¬ D x := fun z => hx ⟨z, c1, c2⟩
        have e := H.2 x dx
        rw [if_neg c1, if_neg c2, e, if_neg c1, if_neg c2]
  · unfold fz_L
    rw [ap.2]
    simp only [jpq]
theorem md_HM {B D : Nat → Prop} {P h w : Nat → Nat} (hB : md_B B P) (hD : ∀ x, D x → B x) (hw : fz_I w) (H : md_HR D P h w) {p t : Nat} (hp : D p) (ht : ¬ D t) (bt : B t)
    {pp tt T : Nat} (ep : P p = pp) (et : P t = tt) (eT : w tt = T) (hT : 3 ≤ T % 6) :
    md_HR (fun x => (D x ∧ x ≠ p) ∨ x = t) P (md_M h p t) (fz_F w pp T) ∧ fz_L w pp T = 0 := by
  subst ep et
  have hh := md_hi hB hD hw H
  have ij : ∀ x y, B x → B y → (P x = P y ↔ x = y) := fun x y dx dy => ⟨hB.1 x y dx dy, fun e => e ▸ rfl⟩
  have nT : ∀ x, B x → P x ≠ T := fun x bx e => by have := hB.2 x bx; rw [e] at this; omega
  have wT : w T = P t := by rw [← eT]; exact hw _
  have ap := H.1 p hp
  have tp : t ≠ p := fun e => ht (e ▸ hp)
  refine ⟨⟨fun x hx => ?_, fun x hx => ?_⟩, ?_⟩
  · rcases hx with ⟨dx, n1⟩ | rfl
    · have ax := H.1 x dx
      have xt : x ≠ t := fun e => ht (e ▸ dx)
      have j1 := ij _ _ (hD _ dx) (hD _ hp)
      have j3 := ij _ _ (hD _ ax.1) (hD _ hp)
      unfold fz_F md_M
      rw [ax.2, wT, ap.2]
      simp only [j1, j3]
      rw [if_neg n1, if_neg n1, if_neg xt, if_neg (nT _ (hD _ dx)), if_neg (nT _ bt), if_neg (nT _ (hD _ ax.1))]
      by_cases c : h x = p
      · rw [if_pos c, if_pos c]
        exact ⟨Or.inr rfl, rfl⟩
      · rw [if_neg c, if_neg c]
        exact ⟨Or.inl ⟨ax.1, c⟩, rfl⟩
    · unfold fz_F md_M
      have j1 := ij _ _ bt (hD _ hp)
      have j2 := ij _ _ (hD _ ap.1) (hD _ hp)
      rw [eT, ap.2]
      simp only [j1, j2]
      have nTp : ¬ T = P p := fun e => nT _ (hD _ hp) e.symm
      rw [if_neg tp, if_neg tp, if_neg (nT _ bt), if_neg nTp]
      simp only [if_true]
      by_cases c : h p = p
      · rw [if_pos c, if_pos c]
        exact ⟨Or.inr rfl, rfl⟩
      · rw [if_neg c, if_neg c]
        exact ⟨Or.inl ⟨ap.1, c⟩, rfl⟩
  · unfold md_M
    by_cases c1 : x = p
    · rw [if_pos c1, c1]
    · have c2 : x ≠ t := fun e => hx (Or.inr e)
      have dx : ¬ D x := fun z => hx (Or.inl ⟨z, c1⟩)
      have e := H.2 x dx
      rw [if_neg c1, if_neg c2, e, if_neg c1]
  · unfold fz_L
    rw [ap.2, if_neg (nT _ (hD _ ap.1))]
theorem md_HJ {B D : Nat → Prop} {P h w : Nat → Nat} (hB : md_B B P) (hD : ∀ x, D x → B x) (hw : fz_I w) (H : md_HR D P h w) {s t : Nat} (hs : ¬ D s) (ht : ¬ D t) (bs : B s) (bt : B t) (hst : s ≠ t)
    {ss tt S T : Nat} (es : P s = ss) (et : P t = tt) (eS : w ss = S) (hS : 3 ≤ S % 6) (eT : w tt = T) (hT : 3 ≤ T % 6) :
    md_HR (fun x => D x ∨ x = s ∨ x = t) P (md_J h s t) (fz_F w S T) ∧ fz_L w S T = 0 := by
  subst es et
  have nS : ∀ x, B x → P x ≠ S := fun x bx e => by have := hB.2 x bx; rw [e] at this; omega
  have nT : ∀ x, B x → P x ≠ T := fun x bx e => by have := hB.2 x bx; rw [e] at this; omega
  have wT : w T = P t := by rw [← eT]; exact hw _
  have wS : w S = P s := by rw [← eS]; exact hw _
  have nTS : ¬ T = S := fun e => hst (hB.1 _ _ bs bt (by rw [← wS, ← wT, e]))
  have nts : ¬ t = s := fun e => hst e.symm
  refine ⟨⟨fun x hx => ?_, fun x hx => ?_⟩, ?_⟩
  · rcases hx with dx | rfl | rfl
    · have ax := H.1 x dx
      have xs : x ≠ s := fun e => hs (e ▸ dx)
      have xt : x ≠ t := fun e => ht (e ▸ dx)
      unfold fz_F md_J
      rw [ax.2, if_neg (nS _ (hD _ dx)), if_neg (nT _ (hD _ dx)), if_neg (nS _ (hD _ ax.1)), if_neg (nT _ (hD _ ax.1)), if_neg xs, if_neg xt]
      exact ⟨Or.inl ax.1, rfl⟩
    · unfold fz_F md_J
      rw [eS, wT, if_neg (nS _ bs), if_neg (nT _ bs), if_pos rfl, if_neg (nT _ bt), if_pos rfl]
      exact ⟨Or.inr (Or.inr rfl), rfl⟩
    · unfold fz_F md_J
      rw [eT, wS, if_neg (nS _ bt), if_neg (nT _ bt), if_neg nTS, if_pos rfl, if_neg (nS _ bs), if_neg nts, if_pos rfl]
      exact ⟨Or.inr (Or.inl rfl), rfl⟩
  · unfold md_J
    rw [if_neg (fun e => hx (Or.inr (Or.inl e))), if_neg (fun e => hx (Or.inr (Or.inr e)))]
    exact H.2 x (fun z => hx (Or.inl z))
  · unfold fz_L
    rw [wS, if_neg (nT _ bs)]
theorem md_HC {D D' : Nat → Prop} {P P' h w : Nat → Nat} (H : md_HR D P h w) (e : ∀ x, D x ↔ D' x) (eP : ∀ x, D x → P x = P' x) : md_HR D' P' h w := by
  refine ⟨fun p hp => ?_, fun p hp => H.2 p (fun z => hp ((e p).mp z))⟩
  have dp := (e p).mpr hp
  have a := H.1 p dp
  exact ⟨(e _).mp a.1, by rw [← eP _ dp, ← eP _ a.1]; exact a.2⟩
theorem md_FK {w : Nat → Nat} {p q x y : Nat} (h : w x = y) (h1 : x ≠ p) (h2 : x ≠ q) (h3 : y ≠ p) (h4 : y ≠ q) : fz_F w p q x = y := by
  unfold fz_F
  rw [h, if_neg h1, if_neg h2, if_neg h3, if_neg h4]
def md_D (o : Nat) (E : Nat → Prop) (v : Nat → Nat) (x : Nat) : Prop := E x ∨ (o ≤ x ∧ (x - o) % 3 < v ((x - o) / 3))
def md_v (e : Nat) (rk : Nat → Int32) (c : Nat) : Nat := if c < e then md_pk (rk c) else 0
def md_P (o : Nat) (U g : Nat → Nat) (p : Nat) : Nat := if o ≤ p then 6 * g ((p - o) / 3) + (p - o) % 3 else U p
/-- what a run's state is, at the middle level, to a net -/
def md_R (o : Nat) (E : Nat → Prop) (U : Nat → Nat) (e : Nat) (rk : Nat → Int32) (h g : Nat → Nat) (N : fz_N) : Prop :=
  fz_ok N ∧ (N.1 26 = -1 ∧ N.1 27 = -1) ∧
  (∀ c, c < e → rk c ≠ -1 → N.1 (g c) = rk c) ∧
  (∀ n, N.1 n ≠ -1 → ∃ c, c < e ∧ rk c ≠ -1 ∧ g c = n) ∧
  (∀ c c', c < e → c' < e → rk c ≠ -1 → rk c' ≠ -1 → g c = g c' → c = c') ∧
  (∀ p, E p → (o ≤ p → (p - o) / 3 < e ∧ rk ((p - o) / 3) = -1) ∧ (md_P o U g p / 6 = 26 ∨ md_P o U g p / 6 = 27) ∧ md_P o U g p % 6 < 3 ∧ md_P o U g p = U p) ∧
  (∀ p q, E p → E q → md_P o U g p = md_P o U g q → p = q) ∧
  md_HR (md_D o E (md_v e rk)) (md_P o U g) h N.2.1
theorem md_Pc {o : Nat} {U g : Nat → Nat} {c s : Nat} (hs : s < 3) : md_P o U g (o + 3 * c + s) = 6 * g c + s := by
  unfold md_P
  rw [if_pos (by omega), show (o + 3 * c + s - o) / 3 = c by omega, show (o + 3 * c + s - o) % 3 = s by omega]
theorem md_pk_m : md_pk (-1) = 0 := by decide
theorem md_pk_3 (k : Int32) : md_pk k ≤ 3 := by
  unfold md_pk
  split
  · omega
  · split
    · omega
    · split <;> omega
/-- ports of live cells and of new ones (e .. e + 3) lie apart in the net -/
theorem md_Bok {o : Nat} {E : Nat → Prop} {U : Nat → Nat} {e : Nat} {rk : Nat → Int32} {h g : Nat → Nat} {N : fz_N} (R : md_R o E U e rk h g N) {g' : Nat → Nat} {k : Nat}
    (hg : ∀ c, c < e → g' c = g c)
    (hn : ∀ c, e ≤ c → c < e + k → 28 ≤ g' c ∧ (∀ c', c' < e → rk c' ≠ -1 → g' c ≠ g c') ∧ ∀ c', e ≤ c' → c' < e + k → g' c = g' c' → c = c') :
    md_B (fun x => E x ∨ (o ≤ x ∧ (((x - o) / 3 < e ∧ rk ((x - o) / 3) ≠ -1) ∨ (e ≤ (x - o) / 3 ∧ (x - o) / 3 < e + k)))) (md_P o U g') := by
  obtain ⟨ok, ⟨k6, k7⟩, r1, r2, r3, r4, r5, r6⟩ := R
  have PE : ∀ x, E x → md_P o U g' x = md_P o U g x := by
    intro x hx
    unfold md_P
    split
    · rename_i ho
      rw [hg _ ((r4 x hx).1 ho).1]
    · rfl
  have nm : ∀ c, ((c < e ∧ rk c ≠ -1) ∨ (e ≤ c ∧ c < e + k)) → g' c ≠ 26 ∧ g' c ≠ 27 := by
    intro c hc
    rcases hc with ⟨c1, c2⟩ | ⟨c1, c2⟩
    · have := r1 c c1 c2
      rw [hg c c1]
      refine ⟨fun z => c2 ?_, fun z => c2 ?_⟩
      · rw [← this, z]; exact k6
      · rw [← this, z]; exact k7
    · have := (hn c c1 c2).1
      omega
  have ic : ∀ c c', ((c < e ∧ rk c ≠ -1) ∨ (e ≤ c ∧ c < e + k)) → ((c' < e ∧ rk c' ≠ -1) ∨ (e ≤ c' ∧ c' < e + k)) → g' c = g' c' → c = c' := by
    intro c c' hc hc' ee
    rcases hc with ⟨c1, c2⟩ | ⟨c1, c2⟩ <;> rcases hc' with ⟨d1, d2⟩ | ⟨d1, d2⟩
    · rw [hg c c1, hg c' d1] at ee
      exact r3 c c' c1 d1 c2 d2 ee
    · rw [hg c c1] at ee
      exact absurd ee.symm ((hn c' d1 d2).2.1 c c1 c2)
    · rw [hg c' d1] at ee
      exact absurd ee ((hn c c1 c2).2.1 c' d1 d2)
    · exact (hn c c1 c2).2.2 c' d1 d2 ee
  have PC : ∀ x, o ≤ x → md_P o U g' x = 6 * g' ((x - o) / 3) + (x - o) % 3 := by
    intro x hx
    unfold md_P
    rw [if_pos hx]
  refine ⟨fun x y bx by' exy => ?_, fun x bx => ?_⟩
  · rcases bx with bx | ⟨bx, cx⟩ <;> rcases by' with b2 | ⟨b2, cy⟩
    · rw [PE x bx, PE y b2] at exy
      exact r5 x y bx b2 exy
    · exfalso
      have a := r4 x bx
      have b := nm _ cy
      rw [PE x bx, PC y b2] at exy
      omega
    · exfalso
      have a := r4 y b2
      have b := nm _ cx
      rw [PE y b2, PC x bx] at exy
      omega
    · rw [PC x bx, PC y b2] at exy
      have := ic _ _ cx cy (by omega)
      omega
  · rcases bx with bx | ⟨bx, cx⟩
    · rw [PE x bx]
      exact (r4 x bx).2.2.1
    · rw [PC x bx]
      omega
