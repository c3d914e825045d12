/-! one step at the middle level is one step of the net -/
def md_p (o c s : Nat) : Nat := o + 3 * c + s
theorem md_pe {o c s c' s' : Nat} (hs : s < 3) (hs' : s' < 3) : md_p o c s = md_p o c' s' ↔ c = c' ∧ s = s' := by
  unfold md_p; omega
theorem md_Pp {o : Nat} {U g : Nat → Nat} {c s : Nat} (hs : s < 3) : md_P o U g (md_p o c s) = 6 * g c + s := md_Pc hs
theorem md_Dp {o : Nat} {E : Nat → Prop} {v : Nat → Nat} {c s : Nat} (h : s < v c) (hs : s < 3) : md_D o E v (md_p o c s) := by
  refine Or.inr ⟨by unfold md_p; omega, ?_⟩
  unfold md_p
  rw [show (o + 3 * c + s - o) / 3 = c by omega, show (o + 3 * c + s - o) % 3 = s by omega]
  exact h
theorem md_Dn {o : Nat} {E : Nat → Prop} {v : Nat → Nat} {c s : Nat} (hE : ¬ E (md_p o c s)) (h : v c ≤ s) (hs : s < 3) : ¬ md_D o E v (md_p o c s) := by
  rintro (z | ⟨_, z⟩)
  · exact hE z
  · unfold md_p at z
    rw [show (o + 3 * c + s - o) / 3 = c by omega, show (o + 3 * c + s - o) % 3 = s by omega] at z
    omega
theorem md_Di {o : Nat} {E : Nat → Prop} {v : Nat → Nat} {c s : Nat} (hE : ¬ E (md_p o c s)) (hs : s < 3) : md_D o E v (md_p o c s) ↔ s < v c :=
  ⟨fun z => Nat.lt_of_not_le (fun k => md_Dn hE k hs z), fun z => md_Dp z hs⟩
theorem md_xx {o x : Nat} (h : o ≤ x) : ∃ c s, s < 3 ∧ x = md_p o c s := ⟨(x - o) / 3, (x - o) % 3, by omega, by unfold md_p; omega⟩
theorem md_pd {o c s : Nat} (hs : s < 3) : (md_p o c s - o) / 3 = c := by unfold md_p; omega
theorem md_po {o c s : Nat} : o ≤ md_p o c s := by unfold md_p; omega
theorem md_DE {o : Nat} {E : Nat → Prop} {v v' : Nat → Nat} {Q : Nat → Prop} (h1 : ∀ x, E x → Q x) (h2 : ∀ x, ¬ E x → ¬ o ≤ x → ¬ Q x) (h3 : ∀ c s, s < 3 → ¬ E (md_p o c s) → (Q (md_p o c s) ↔ s < v' c)) : ∀ x, Q x ↔ md_D o E v' x := by
  intro x
  by_cases ex : E x
  · exact ⟨fun _ => Or.inl ex, fun _ => h1 x ex⟩
  · by_cases ox : o ≤ x
    · obtain ⟨c, s, hs, rfl⟩ := md_xx ox
      exact (h3 c s hs ex).trans (md_Di ex hs).symm
    · exact ⟨fun z => absurd z (h2 x ex ox), fun z => z.elim (fun w => absurd w ex) (fun w => absurd w.1 ox)⟩
/-- what holds of two cells that face each other -/
theorem md_face {o : Nat} {E : Nat → Prop} {U : Nat → Nat} {e : Nat} {rk : Nat → Int32} {h g : Nat → Nat} {N : fz_N} (R : md_R o E U e rk h g N) {a b : Nat} (ha : a < e) (hb : b < e) (la : rk a ≠ -1) (lb : rk b ≠ -1) (hab : a ≠ b)
    (hh : h (md_p o a 0) = md_p o b 0) : fz_ac N (g a) (g b) ∧ fz_k3 (rk a) ∧ fz_k3 (rk b) := by
  obtain ⟨ok, _, r1, r2, r3, r4, r5, r6⟩ := R
  have ka := r1 a ha la
  have kb := r1 b hb lb
  have la' : N.1 (g a) ≠ -1 := by rw [ka]; exact la
  have lb' : N.1 (g b) ≠ -1 := by rw [kb]; exact lb
  have k3a : fz_k3 (rk a) := ka ▸ (ok.2 _ la').2.1
  have k3b : fz_k3 (rk b) := kb ▸ (ok.2 _ lb').2.1
  refine ⟨⟨la', lb', fun z => hab (r3 a b ha hb la lb z), ?_⟩, k3a, k3b⟩
  have va : 0 < md_v e rk a := by
    unfold md_v
    rw [if_pos ha]
    rcases k3a with z | z | z <;> rw [z] <;> decide
  have D := md_Dp (o := o) (E := E) (c := a) (s := 0) va (by omega)
  have q := (r6.1 _ D).2
  rw [hh, md_Pp (by omega), md_Pp (by omega)] at q
  exact q
/-- the names' part of a step -/
theorem md_mk {o : Nat} {E : Nat → Prop} {U : Nat → Nat} {e : Nat} {rk : Nat → Int32} {h g : Nat → Nat} {N : fz_N} (R : md_R o E U e rk h g N) {a b : Nat} (ha : a < e) (hb : b < e) (la : rk a ≠ -1) (lb : rk b ≠ -1)
    (AC : fz_ac N (g a) (g b)) {e' : Nat} {rk' : Nat → Int32} {h' g' : Nat → Nat} (he : e ≤ e') (hg : ∀ c, c < e → g' c = g c) (ka : rk' a = -1) (kb : rk' b = -1) (kk : ∀ c, c < e → c ≠ a → c ≠ b → rk' c = rk c)
    (hn : ∀ c, e ≤ c → c < e' → ((g' c / 2 = g a ∧ rk' c = fz_ck (rk a) (rk b)) ∨ (g' c / 2 = g b ∧ rk' c = fz_ck (rk b) (rk a))) ∧ ∀ c', e ≤ c' → c' < e' → g' c = g' c' → c = c')
    (sa : ∀ n, n / 2 = g a → fz_ck (rk a) (rk b) ≠ -1 → ∃ c, e ≤ c ∧ c < e' ∧ g' c = n) (sb : ∀ n, n / 2 = g b → fz_ck (rk b) (rk a) ≠ -1 → ∃ c, e ≤ c ∧ c < e' ∧ g' c = n)
    (H : md_HR (md_D o E (md_v e' rk')) (md_P o U g') h' (fz_st N (g a) (g b)).2.1) : md_R o E U e' rk' h' g' (fz_st N (g a) (g b)) := by
  obtain ⟨ok, ⟨k6, k7⟩, r1, r2, r3, r4, r5, r6⟩ := R
  have A := r1 a ha la
  have B := r1 b hb lb
  have a16 := (ok.2 _ AC.1).1
  have b16 := (ok.2 _ AC.2.1).1
  have kdn : ∀ n, (fz_st N (g a) (g b)).1 n = if n = g a ∨ n = g b then -1 else if n / 2 = g a then fz_ck (rk a) (rk b) else if n / 2 = g b then fz_ck (rk b) (rk a) else N.1 n := by
    intro n
    rw [← A, ← B]; rfl
  have dca : ∀ n, n / 2 = g a → N.1 n = -1 := fun n z => ((ok.2 _ AC.1).2.2 n (fz_ds1 z)).1
  have dcb : ∀ n, n / 2 = g b → N.1 n = -1 := fun n z => ((ok.2 _ AC.2.1).2.2 n (fz_ds1 z)).1
  have old : ∀ c, c < e → rk' c ≠ -1 → c ≠ a ∧ c ≠ b ∧ rk c ≠ -1 ∧ rk' c = rk c := by
    intro c hc lc
    have n1 : c ≠ a := fun z => lc (z ▸ ka)
    have n2 : c ≠ b := fun z => lc (z ▸ kb)
    have q := kk c hc n1 n2
    exact ⟨n1, n2, q ▸ lc, q⟩
  have oldN : ∀ c, c < e → rk' c ≠ -1 → (fz_st N (g a) (g b)).1 (g c) = rk' c := by
    intro c hc lc
    obtain ⟨n1, n2, l, q⟩ := old c hc lc
    have kc := r1 c hc l
    have lk : N.1 (g c) ≠ -1 := by rw [kc]; exact l
    rw [kdn, if_neg (fun z => z.elim (fun z => n1 (r3 c a hc ha l la z)) (fun z => n2 (r3 c b hc hb l lb z))), if_neg (fun z => lk (dca _ z)), if_neg (fun z => lk (dcb _ z)), kc, q]
  have PE : ∀ x, E x → md_P o U g' x = md_P o U g x := by
    intro x hx
    unfold md_P
    split
    · rename_i ho
      rw [hg _ ((r4 x hx).1 ho).1]
    · rfl
  refine ⟨fz_st_ok ok AC, ⟨?_, ?_⟩, ?_, ?_, ?_, ?_, ?_, H⟩
  · rw [kdn, k6, if_neg (show ¬ 26 / 2 = g a by omega), if_neg (show ¬ 26 / 2 = g b by omega)]
    split <;> rfl
  · rw [kdn, k7, if_neg (show ¬ 27 / 2 = g a by omega), if_neg (show ¬ 27 / 2 = g b by omega)]
    split <;> rfl
  · intro c hc lc
    by_cases c1 : c < e
    · rw [hg c c1]
      exact oldN c c1 lc
    · have q := (hn c (by omega) hc).1
      have ne1 : ¬ (g' c = g a ∨ g' c = g b) := by
        intro z
        have l : N.1 (g' c) ≠ -1 := z.elim (fun z => z ▸ AC.1) (fun z => z ▸ AC.2.1)
        exact l (q.elim (fun z => dca _ z.1) (fun z => dcb _ z.1))
      rw [kdn, if_neg ne1]
      rcases q with ⟨q1, q2⟩ | ⟨q1, q2⟩
      · rw [if_pos q1, q2]
      · rw [if_neg (fun z => AC.2.2.1 (z.symm.trans q1)), if_pos q1, q2]
  · intro n hn'
    rw [kdn] at hn'
    by_cases c1 : n = g a ∨ n = g b
    · rw [if_pos c1] at hn'
      exact absurd rfl hn'
    · rw [if_neg c1] at hn'
      by_cases c2 : n / 2 = g a
      · rw [if_pos c2] at hn'
        obtain ⟨c, q1, q2, q3⟩ := sa n c2 hn'
        refine ⟨c, q2, ?_, q3⟩
        rcases (hn c q1 q2).1 with ⟨z1, z2⟩ | ⟨z1, z2⟩
        · rw [z2]; exact hn'
        · exact absurd (c2.symm.trans (q3 ▸ z1)) AC.2.2.1
      · rw [if_neg c2] at hn'
        by_cases c3 : n / 2 = g b
        · rw [if_pos c3] at hn'
          obtain ⟨c, q1, q2, q3⟩ := sb n c3 hn'
          refine ⟨c, q2, ?_, q3⟩
          rcases (hn c q1 q2).1 with ⟨z1, z2⟩ | ⟨z1, z2⟩
          · exact absurd (q3 ▸ z1) c2
          · rw [z2]; exact hn'
        · rw [if_neg c3] at hn'
          obtain ⟨c, q1, q2, q3⟩ := r2 n hn'
          refine ⟨c, by omega, ?_, (hg c q1).trans q3⟩
          rw [kk c q1 (fun z => c1 (Or.inl (z ▸ q3.symm))) (fun z => c1 (Or.inr (z ▸ q3.symm)))]
          exact q2
  · intro c c' hc hc' lc lc' ee
    have mix : ∀ d d', d < e → e ≤ d' → d' < e' → rk' d ≠ -1 → g' d = g' d' → False := by
      intro d d' h1 h2 h3 l1 z
      obtain ⟨n1, n2, l, q⟩ := old d h1 l1
      have kd := r1 d h1 l
      have lk : N.1 (g' d) ≠ -1 := by rw [hg d h1, kd]; exact l
      rw [z] at lk
      exact lk ((hn d' h2 h3).1.elim (fun z => dca _ z.1) (fun z => dcb _ z.1))
    by_cases c1 : c < e <;> by_cases c2 : c' < e
    · obtain ⟨_, _, l1, _⟩ := old c c1 lc
      obtain ⟨_, _, l2, _⟩ := old c' c2 lc'
      rw [hg c c1, hg c' c2] at ee
      exact r3 c c' c1 c2 l1 l2 ee
    · exact (mix c c' c1 (by omega) hc' lc ee).elim
    · exact (mix c' c c2 (by omega) hc lc' ee.symm).elim
    · exact (hn c (by omega) hc).2 c' (by omega) hc' ee
  · intro p hp
    have q := r4 p hp
    rw [PE p hp]
    refine ⟨fun ho => ?_, q.2⟩
    obtain ⟨q1, q2⟩ := q.1 ho
    refine ⟨by omega, ?_⟩
    rw [kk _ q1 (fun z => la (z ▸ q2)) (fun z => lb (z ▸ q2))]
    exact q2
  · intro p q hp hq ee
    rw [PE p hp, PE q hq] at ee
    exact r5 p q hp hq ee
theorem md_DB {o : Nat} {E : Nat → Prop} (e k : Nat) (rk : Nat → Int32) : ∀ x, md_D o E (md_v e rk) x → (E x ∨ (o ≤ x ∧ (((x - o) / 3 < e ∧ rk ((x - o) / 3) ≠ -1) ∨ (e ≤ (x - o) / 3 ∧ (x - o) / 3 < e + k)))) := by
  intro x hx
  rcases hx with z | ⟨z1, z2⟩
  · exact Or.inl z
  · refine Or.inr ⟨z1, Or.inl ?_⟩
    unfold md_v at z2
    by_cases c : (x - o) / 3 < e
    · refine ⟨c, fun q => ?_⟩
      rw [if_pos c, q, md_pk_m] at z2
      omega
    · rw [if_neg c] at z2
      omega
theorem md_s0 {o : Nat} {E : Nat → Prop} {U : Nat → Nat} {e : Nat} {rk : Nat → Int32} {h g : Nat → Nat} {N : fz_N} (R : md_R o E U e rk h g N) {a b : Nat} (ha : a < e) (hb : b < e) (la : rk a ≠ -1) (lb : rk b ≠ -1) (hab : a ≠ b)
    (hh : h (md_p o a 0) = md_p o b 0) (k2a : rk a = 2) (k2b : rk b = 2) :
    md_R o E U e (upd (upd rk a (-1)) b (-1)) (fz_F h (md_p o a 0) (md_p o b 0)) g (fz_st N (g a) (g b)) ∧ (fz_st N (g a) (g b)).2.2 = N.2.2 + 1 := by
  obtain ⟨AC, k3a, k3b⟩ := md_face R ha hb la lb hab hh
  have R' := R
  obtain ⟨ok, ⟨k6, k7⟩, r1, r2, r3, r4, r5, r6⟩ := R'
  have A := r1 a ha la
  have B := r1 b hb lb
  have nba : b ≠ a := fun z => hab z.symm
  have hE : ∀ c s, s < 3 → E (md_p o c s) → c < e ∧ rk c = -1 := by
    intro c s hs z
    have q := (r4 _ z).1 md_po
    rw [md_pd hs] at q
    exact q
  have ka : (upd (upd rk a (-1)) b (-1)) a = -1 := by rw [pk_un hab, pk_us]
  have kb : (upd (upd rk a (-1)) b (-1)) b = -1 := pk_us
  have kk : ∀ c, c ≠ a → c ≠ b → (upd (upd rk a (-1)) b (-1)) c = rk c := fun c n1 n2 => by rw [pk_un n2, pk_un n1]
  have nEa : ∀ s, s < 3 → ¬ E (md_p o a s) := fun s hs z => la (hE a s hs z).2
  have nEb : ∀ s, s < 3 → ¬ E (md_p o b s) := fun s hs z => lb (hE b s hs z).2
  have va : md_v e rk a = 1 := by unfold md_v; rw [if_pos ha, k2a]; rfl
  have vb : md_v e rk b = 1 := by unfold md_v; rw [if_pos hb, k2b]; rfl
  have hB := md_Bok R (g' := g) (k := 0) (fun c _ => rfl) (fun c h1 h2 => by omega)
  have hD : ∀ x, md_D o E (md_v e rk) x → (E x ∨ (o ≤ x ∧ (((x - o) / 3 < e ∧ rk ((x - o) / 3) ≠ -1) ∨ (e ≤ (x - o) / 3 ∧ (x - o) / 3 < e + 0)))) := md_DB e 0 rk
  have F1 := md_HF hB hD ok.1 r6 (p := md_p o a 0) (q := md_p o b 0) (md_Dp (by rw [va]; omega) (by omega)) (md_Dp (by rw [vb]; omega) (by omega)) (fun z => hab ((md_pe (by omega) (by omega)).mp z).1) (md_Pp (by omega)) (md_Pp (by omega))
  have est : fz_st N (g a) (g b) = (fz_kd N.1 (g a) (g b), fz_F N.2.1 (6 * g a + 0) (6 * g b + 0), N.2.2 + fz_L N.2.1 (6 * g a + 0) (6 * g b + 0)) := by
    unfold fz_st fz_ops fz_tl
    rw [A, B, k2a, k2b, if_pos rfl, if_pos rfl]
    rfl
  have eL : fz_L h (md_p o a 0) (md_p o b 0) = 1 := by unfold fz_L; rw [if_pos hh]
  refine ⟨?_, by rw [est, F1.2, eL]⟩
  refine md_mk R ha hb la lb AC (Nat.le_refl e) (fun c _ => rfl) ka kb (fun c _ n1 n2 => kk c n1 n2) (fun c h1 h2 => by omega) (fun n _ z => ?_) (fun n _ z => ?_) ?_
  · exfalso; apply z; rw [k2a, k2b]; rfl
  · exfalso; apply z; rw [k2a, k2b]; rfl
  · rw [est]
    refine md_HC F1.1 (md_DE (v := md_v e rk) ?_ ?_ ?_) (fun _ _ => rfl)
    · intro x ex
      exact ⟨Or.inl ex, fun z => nEa 0 (by omega) (z ▸ ex), fun z => nEb 0 (by omega) (z ▸ ex)⟩
    · intro x ex ox z
      exact z.1.elim ex (fun z => ox z.1)
    · intro c s hs ex
      rw [md_Di ex hs]
      show _ ↔ s < md_v e _ c
      rw [Ne, Ne, md_pe hs (by omega), md_pe hs (by omega)]
      by_cases c1 : c = a
      · subst c1
        have : md_v e (upd (upd rk c (-1)) b (-1)) c = 0 := by unfold md_v; rw [if_pos ha, ka]; rfl
        rw [this, va]; omega
      · by_cases c2 : c = b
        · subst c2
          have : md_v e (upd (upd rk a (-1)) c (-1)) c = 0 := by unfold md_v; rw [if_pos hb, kb]; rfl
          rw [this, vb]; omega
        · have : md_v e (upd (upd rk a (-1)) b (-1)) c = md_v e rk c := by unfold md_v; rw [kk c c1 c2]
          rw [this]; omega
theorem md_s1 {o : Nat} {E : Nat → Prop} {U : Nat → Nat} {e : Nat} {rk : Nat → Int32} {h g : Nat → Nat} {N : fz_N} (R : md_R o E U e rk h g N) {a b : Nat} (ha : a < e) (hb : b < e) (la : rk a ≠ -1) (lb : rk b ≠ -1) (hab : a ≠ b)
    (hh : h (md_p o a 0) = md_p o b 0) (kab : rk a = rk b) (k2 : rk a ≠ 2) :
    md_R o E U e (upd (upd rk a (-1)) b (-1)) (fz_F (fz_F (fz_F h (md_p o a 0) (md_p o b 0)) (md_p o a 1) (md_p o b 1)) (md_p o a 2) (md_p o b 2)) g (fz_st N (g a) (g b)) ∧
    (fz_st N (g a) (g b)).2.2 = N.2.2 + 1 + fz_L (fz_F h (md_p o a 0) (md_p o b 0)) (md_p o a 1) (md_p o b 1) + fz_L (fz_F (fz_F h (md_p o a 0) (md_p o b 0)) (md_p o a 1) (md_p o b 1)) (md_p o a 2) (md_p o b 2) := by
  obtain ⟨AC, k3a, k3b⟩ := md_face R ha hb la lb hab hh
  have R' := R
  obtain ⟨ok, ⟨k6, k7⟩, r1, r2, r3, r4, r5, r6⟩ := R'
  have A := r1 a ha la
  have B := r1 b hb lb
  have nba : b ≠ a := fun z => hab z.symm
  have hE : ∀ c s, s < 3 → E (md_p o c s) → c < e ∧ rk c = -1 := by
    intro c s hs z
    have q := (r4 _ z).1 md_po
    rw [md_pd hs] at q
    exact q
  have ka : (upd (upd rk a (-1)) b (-1)) a = -1 := by rw [pk_un hab, pk_us]
  have kb : (upd (upd rk a (-1)) b (-1)) b = -1 := pk_us
  have kk : ∀ c, c ≠ a → c ≠ b → (upd (upd rk a (-1)) b (-1)) c = rk c := fun c n1 n2 => by rw [pk_un n2, pk_un n1]
  have nEa : ∀ s, s < 3 → ¬ E (md_p o a s) := fun s hs z => la (hE a s hs z).2
  have nEb : ∀ s, s < 3 → ¬ E (md_p o b s) := fun s hs z => lb (hE b s hs z).2
  have va : md_v e rk a = 3 := by unfold md_v; rw [if_pos ha]; rcases k3a with z | z | z <;> first | exact absurd z k2 | (rw [z]; rfl)
  have vb : md_v e rk b = 3 := by unfold md_v; rw [if_pos hb, ← kab]; rcases k3a with z | z | z <;> first | exact absurd z k2 | (rw [z]; rfl)
  have hB := md_Bok R (g' := g) (k := 0) (fun c _ => rfl) (fun c h1 h2 => by omega)
  have hD : ∀ x, md_D o E (md_v e rk) x → (E x ∨ (o ≤ x ∧ (((x - o) / 3 < e ∧ rk ((x - o) / 3) ≠ -1) ∨ (e ≤ (x - o) / 3 ∧ (x - o) / 3 < e + 0)))) := md_DB e 0 rk
  have pab : ∀ s t, s < 3 → t < 3 → md_p o a s ≠ md_p o b t := fun s t hs ht z => hab ((md_pe hs ht).mp z).1
  have pba : ∀ s t, s < 3 → t < 3 → md_p o b s ≠ md_p o a t := fun s t hs ht z => nba ((md_pe hs ht).mp z).1
  have paa : ∀ s t, s < 3 → t < 3 → s ≠ t → md_p o a s ≠ md_p o a t := fun s t hs ht n z => n ((md_pe hs ht).mp z).2
  have pbb : ∀ s t, s < 3 → t < 3 → s ≠ t → md_p o b s ≠ md_p o b t := fun s t hs ht n z => n ((md_pe hs ht).mp z).2
  have Da : ∀ s, s < 3 → md_D o E (md_v e rk) (md_p o a s) := fun s hs => md_Dp (by rw [va]; exact hs) hs
  have Db : ∀ s, s < 3 → md_D o E (md_v e rk) (md_p o b s) := fun s hs => md_Dp (by rw [vb]; exact hs) hs
  have gab : g a ≠ g b := AC.2.2.1
  have i0 := ok.1
  have i1 := fz_inv i0 (p := 6 * g a + 0) (q := 6 * g b + 0) (by omega)
  have i2 := fz_inv i1 (p := 6 * g a + 1) (q := 6 * g b + 1) (by omega)
  have F1 := md_HF hB hD i0 r6 (Da 0 (by omega)) (Db 0 (by omega)) (pab 0 0 (by omega) (by omega)) (md_Pp (by omega)) (md_Pp (by omega))
  have F2 := md_HF hB (fun x z => hD x z.1) i1 F1.1 (p := md_p o a 1) (q := md_p o b 1) ⟨Da 1 (by omega), paa 1 0 (by omega) (by omega) (by omega), pab 1 0 (by omega) (by omega)⟩ ⟨Db 1 (by omega), pba 1 0 (by omega) (by omega), pbb 1 0 (by omega) (by omega) (by omega)⟩ (pab 1 1 (by omega) (by omega)) (md_Pp (by omega)) (md_Pp (by omega))
  have F3 := md_HF hB (fun x z => hD x z.1.1) i2 F2.1 (p := md_p o a 2) (q := md_p o b 2) ⟨⟨Da 2 (by omega), paa 2 0 (by omega) (by omega) (by omega), pab 2 0 (by omega) (by omega)⟩, paa 2 1 (by omega) (by omega) (by omega), pab 2 1 (by omega) (by omega)⟩ ⟨⟨Db 2 (by omega), pba 2 0 (by omega) (by omega), pbb 2 0 (by omega) (by omega) (by omega)⟩, pba 2 1 (by omega) (by omega), pbb 2 1 (by omega) (by omega) (by omega)⟩ (pab 2 2 (by omega) (by omega)) (md_Pp (by omega)) (md_Pp (by omega))
  have est : fz_st N (g a) (g b) = (fz_kd N.1 (g a) (g b), fz_F (fz_F (fz_F N.2.1 (6 * g a + 0) (6 * g b + 0)) (6 * g a + 1) (6 * g b + 1)) (6 * g a + 2) (6 * g b + 2), N.2.2 + fz_L N.2.1 (6 * g a + 0) (6 * g b + 0) + fz_L (fz_F N.2.1 (6 * g a + 0) (6 * g b + 0)) (6 * g a + 1) (6 * g b + 1) + fz_L (fz_F (fz_F N.2.1 (6 * g a + 0) (6 * g b + 0)) (6 * g a + 1) (6 * g b + 1)) (6 * g a + 2) (6 * g b + 2)) := by
    unfold fz_st fz_ops fz_tl
    rw [A, B, if_pos kab, if_neg k2]
    rfl
  have eL : fz_L h (md_p o a 0) (md_p o b 0) = 1 := by unfold fz_L; rw [if_pos hh]
  refine ⟨?_, by rw [est, F1.2, F2.2, F3.2, eL]⟩
  refine md_mk R ha hb la lb AC (Nat.le_refl e) (fun c _ => rfl) ka kb (fun c _ n1 n2 => kk c n1 n2) (fun c h1 h2 => by omega) (fun n _ z => ?_) (fun n _ z => ?_) ?_
  · exfalso; apply z; unfold fz_ck; rw [if_pos kab]
  · exfalso; apply z; unfold fz_ck; rw [if_pos kab.symm]
  · rw [est]
    refine md_HC F3.1 (md_DE (v := md_v e rk) ?_ ?_ ?_) (fun _ _ => rfl)
    · intro x ex
      have na : ∀ s, s < 3 → x ≠ md_p o a s := fun s hs z => nEa s hs (z ▸ ex)
      have nb : ∀ s, s < 3 → x ≠ md_p o b s := fun s hs z => nEb s hs (z ▸ ex)
      exact ⟨⟨⟨Or.inl ex, na 0 (by omega), nb 0 (by omega)⟩, na 1 (by omega), nb 1 (by omega)⟩, na 2 (by omega), nb 2 (by omega)⟩
    · intro x ex ox z
      exact z.1.1.1.elim ex (fun z => ox z.1)
    · intro c s hs ex
      rw [md_Di ex hs]
      show _ ↔ s < md_v e _ c
      simp only [Ne, md_pe hs (show 0 < 3 by omega), md_pe hs (show 1 < 3 by omega), md_pe hs (show 2 < 3 by omega)]
      by_cases c1 : c = a
      · subst c1
        have : md_v e (upd (upd rk c (-1)) b (-1)) c = 0 := by unfold md_v; rw [if_pos ha, ka]; rfl
        rw [this, va]; omega
      · by_cases c2 : c = b
        · subst c2
          have : md_v e (upd (upd rk a (-1)) c (-1)) c = 0 := by unfold md_v; rw [if_pos hb, kb]; rfl
          rw [this, vb]; omega
        · have : md_v e (upd (upd rk a (-1)) b (-1)) c = md_v e rk c := by unfold md_v; rw [kk c c1 c2]
          rw [this]; simp only [c1, c2, false_and, not_false_eq_true, and_true]
