/-! erasing and copying at the middle level -/
theorem md_PD {o : Nat} {E : Nat → Prop} {U : Nat → Nat} {e : Nat} {rk : Nat → Int32} {h g : Nat → Nat} {N : fz_N} (R : md_R o E U e rk h g N) {g' : Nat → Nat} (hg : ∀ c, c < e → g' c = g c) :
    ∀ x, md_D o E (md_v e rk) x → md_P o U g x = md_P o U g' x := by
  obtain ⟨ok, ⟨k6, k7⟩, r1, r2, r3, r4, r5, r6⟩ := R
  intro x hx
  unfold md_P
  split
  · rename_i ho
    have q : (x - o) / 3 < e := by
      rcases md_DB e 0 rk x hx with z | ⟨_, z⟩
      · exact ((r4 x z).1 ho).1
      · omega
    rw [hg _ q]
  · rfl
theorem md_vg0 {w : Nat → Nat} {n : Nat} (h : fz_vg w (2 * n)) {i : Nat} (hi : i < 3) : w (12 * n + i) = 12 * n + i + 3 := by
  have q := h i (by omega)
  rw [show 6 * (2 * n) + i = 12 * n + i by omega] at q
  rw [q]; omega
theorem md_vg1 {w : Nat → Nat} {n : Nat} (h : fz_vg w (2 * n + 1)) {i : Nat} (hi : i < 3) : w (12 * n + 6 + i) = 12 * n + 6 + i + 3 := by
  have q := h i (by omega)
  rw [show 6 * (2 * n + 1) + i = 12 * n + 6 + i by omega] at q
  rw [q]; omega
theorem md_er {o : Nat} {E : Nat → Prop} {U : Nat → Nat} {e : Nat} {rk : Nat → Int32} {h g : Nat → Nat} {N : fz_N} (R : md_R o E U e rk h g N) {a b : Nat} (ha : a < e) (hb : b < e) (la : rk a ≠ -1) (lb : rk b ≠ -1) (hab : a ≠ b)
    (hh : h (md_p o a 0) = md_p o b 0) (k2a : rk a ≠ 2) (k2b : rk b = 2) :
    ∃ g', md_R o E U (e + 2) (upd (upd (upd (upd rk a (-1)) b (-1)) e 2) (e + 1) 2) (md_M (md_M (fz_F h (md_p o a 0) (md_p o b 0)) (md_p o a 1) (md_p o e 0)) (md_p o a 2) (md_p o (e + 1) 0)) g' (fz_st N (g a) (g b)) ∧ (fz_st N (g a) (g b)).2.2 = N.2.2 + 1 := by
  obtain ⟨AC, k3a, k3b⟩ := md_face R ha hb la lb hab hh
  have R' := R
  obtain ⟨ok, ⟨k6, k7⟩, r1, r2, r3, r4, r5, r6⟩ := R'
  have A := r1 a ha la
  have B := r1 b hb lb
  have nba : b ≠ a := fun z => hab z.symm
  have hE : ∀ c s, s < 3 → E (md_p o c s) → c < e ∧ rk c = -1 := by
    intro c s hs z
    have q := (r4 _ z).1 md_po
    rw [md_pd hs] at q
    exact q
  have nEa : ∀ s, s < 3 → ¬ E (md_p o a s) := fun s hs z => la (hE a s hs z).2
  have nEb : ∀ s, s < 3 → ¬ E (md_p o b s) := fun s hs z => lb (hE b s hs z).2
  have nEn : ∀ c s, e ≤ c → s < 3 → ¬ E (md_p o c s) := fun c s hc hs z => by have := (hE c s hs z).1; omega
  have vn : ∀ c, e ≤ c → md_v e rk c = 0 := fun c hc => by unfold md_v; rw [if_neg (by omega)]
  have nDn : ∀ c s, e ≤ c → s < 3 → ¬ md_D o E (md_v e rk) (md_p o c s) := fun c s hc hs => md_Dn (nEn c s hc hs) (by rw [vn c hc]; omega) hs
  have sAB := fz_lsep ok AC.1 AC.2.1 AC.2.2.1
  unfold fz_sep at sAB
  have a16 := (ok.2 _ AC.1).1
  have b16 := (ok.2 _ AC.2.1).1
  have hD : ∀ x, md_D o E (md_v e rk) x → (fun x => E x ∨ (o ≤ x ∧ (((x - o) / 3 < e ∧ rk ((x - o) / 3) ≠ -1) ∨ (e ≤ (x - o) / 3 ∧ (x - o) / 3 < e + 2)))) x := md_DB e 2 rk
  have bN : ∀ c s, e ≤ c → c < e + 2 → s < 3 → (fun x => E x ∨ (o ≤ x ∧ (((x - o) / 3 < e ∧ rk ((x - o) / 3) ≠ -1) ∨ (e ≤ (x - o) / 3 ∧ (x - o) / 3 < e + 2)))) (md_p o c s) := fun c s h1 h2 hs => Or.inr ⟨md_po, Or.inr (by rw [md_pd hs]; exact ⟨h1, h2⟩)⟩
  have pn : ∀ c s c' s', s < 3 → s' < 3 → c ≠ c' → md_p o c s ≠ md_p o c' s' := fun c s c' s' h1 h2 n z => n ((md_pe h1 h2).mp z).1
  have ps : ∀ c s s', s < 3 → s' < 3 → s ≠ s' → md_p o c s ≠ md_p o c s' := fun c s s' h1 h2 n z => n ((md_pe h1 h2).mp z).2
  have va : md_v e rk a = 3 := by unfold md_v; rw [if_pos ha]; rcases k3a with z | z | z <;> first | exact absurd z k2a | (rw [z]; rfl)
  have vb : md_v e rk b = 1 := by unfold md_v; rw [if_pos hb, k2b]; rfl
  obtain ⟨g', eg⟩ : ∃ g' : Nat → Nat, g' = (fun c => if c < e then g c else if c = e then 2 * g a else 2 * g a + 1) := ⟨_, rfl⟩
  have hg : ∀ c, c < e → g' c = g c := fun c hc => by rw [eg]; exact if_pos hc
  have ge0 : g' e = 2 * g a := by rw [eg]; show (if e < e then _ else if e = e then _ else _) = _; rw [if_neg (by omega), if_pos rfl]
  have ge1 : g' (e + 1) = 2 * g a + 1 := by rw [eg]; show (if e + 1 < e then _ else if e + 1 = e then _ else _) = _; rw [if_neg (by omega), if_neg (by omega)]
  have new : ∀ c, e ≤ c → c < e + 2 → c = e ∨ c = e + 1 := fun c h1 h2 => by omega
  have nd : ∀ n, n / 2 = g a → ∀ c', c' < e → rk c' ≠ -1 → n ≠ g c' := by
    intro n hn c' hc' l z
    have q := ((ok.2 _ AC.1).2.2 n (fz_ds1 hn)).1
    rw [z, r1 c' hc' l] at q
    exact l q
  have hB : md_B (fun x => E x ∨ (o ≤ x ∧ (((x - o) / 3 < e ∧ rk ((x - o) / 3) ≠ -1) ∨ (e ≤ (x - o) / 3 ∧ (x - o) / 3 < e + 2)))) (md_P o U g') := by
    refine md_Bok R hg (fun c h1 h2 => ?_)
    rcases new c h1 h2 with rfl | rfl
    · refine ⟨by omega, fun c' hc' l => nd _ (by omega) c' hc' l, fun c' h3 h4 z => ?_⟩
      rcases new c' h3 h4 with rfl | rfl
      · rfl
      · omega
    · refine ⟨by omega, fun c' hc' l => nd _ (by omega) c' hc' l, fun c' h3 h4 z => ?_⟩
      rcases new c' h3 h4 with rfl | rfl
      · omega
      · rfl
  have H0 : md_HR (md_D o E (md_v e rk)) (md_P o U g') h N.2.1 := md_HC r6 (fun _ => Iff.rfl) (md_PD R hg)
  have Pa : ∀ s, s < 3 → md_P o U g' (md_p o a s) = 6 * g a + s := fun s hs => by rw [md_Pp hs, hg a ha]
  have Pb : ∀ s, s < 3 → md_P o U g' (md_p o b s) = 6 * g b + s := fun s hs => by rw [md_Pp hs, hg b hb]
  have Pe : md_P o U g' (md_p o e 0) = 12 * g a := by rw [md_Pp (by omega), ge0]; omega
  have Pf : md_P o U g' (md_p o (e + 1) 0) = 12 * g a + 6 := by rw [md_Pp (by omega), ge1]; omega
  have V0 := ((ok.2 _ AC.1).2.2 (2 * g a) (fz_ds1 (by omega))).2
  have V1 := ((ok.2 _ AC.1).2.2 (2 * g a + 1) (fz_ds1 (by omega))).2
  have x0 : N.2.1 (12 * g a) = 12 * g a + 3 := md_vg0 V0 (i := 0) (by omega)
  have y0 : N.2.1 (12 * g a + 6) = 12 * g a + 9 := md_vg1 V1 (i := 0) (by omega)
  have i0 := ok.1
  have i1 := fz_inv i0 (p := 6 * g a + 0) (q := 6 * g b + 0) (by omega)
  have i2 := fz_inv i1 (p := 6 * g a + 1) (q := 12 * g a + 3) (by omega)
  have x1 := md_FK x0 (p := 6 * g a + 0) (q := 6 * g b + 0) (by omega) (by omega) (by omega) (by omega)
  have y1 := md_FK y0 (p := 6 * g a + 0) (q := 6 * g b + 0) (by omega) (by omega) (by omega) (by omega)
  have y2 := md_FK y1 (p := 6 * g a + 1) (q := 12 * g a + 3) (by omega) (by omega) (by omega) (by omega)
  have Da : ∀ s, s < 3 → md_D o E (md_v e rk) (md_p o a s) := fun s hs => md_Dp (by rw [va]; exact hs) hs
  have Db : md_D o E (md_v e rk) (md_p o b 0) := md_Dp (by rw [vb]; omega) (by omega)
  have F1 := md_HF hB hD i0 H0 (Da 0 (by omega)) Db (pn a 0 b 0 (by omega) (by omega) hab) (Pa 0 (by omega)) (Pb 0 (by omega))
  have hD1 : ∀ x, (md_D o E (md_v e rk) x ∧ x ≠ md_p o a 0 ∧ x ≠ md_p o b 0) → (fun x => E x ∨ (o ≤ x ∧ (((x - o) / 3 < e ∧ rk ((x - o) / 3) ≠ -1) ∨ (e ≤ (x - o) / 3 ∧ (x - o) / 3 < e + 2)))) x := fun x z => hD x z.1
  have F2 := md_HM hB hD1 i1 F1.1 (p := md_p o a 1) (t := md_p o e 0) ⟨Da 1 (by omega), ps a 1 0 (by omega) (by omega) (by omega), pn a 1 b 0 (by omega) (by omega) hab⟩ (fun z => nDn e 0 (by omega) (by omega) z.1) (bN e 0 (by omega) (by omega) (by omega)) (Pa 1 (by omega)) Pe x1 (by omega)
  have hD2 : ∀ x, (((md_D o E (md_v e rk) x ∧ x ≠ md_p o a 0 ∧ x ≠ md_p o b 0) ∧ x ≠ md_p o a 1) ∨ x = md_p o e 0) → (fun x => E x ∨ (o ≤ x ∧ (((x - o) / 3 < e ∧ rk ((x - o) / 3) ≠ -1) ∨ (e ≤ (x - o) / 3 ∧ (x - o) / 3 < e + 2)))) x := fun x z => z.elim (fun z => hD1 x z.1) (fun z => z ▸ bN e 0 (by omega) (by omega) (by omega))
  have F3 := md_HM hB hD2 i2 F2.1 (p := md_p o a 2) (t := md_p o (e + 1) 0) (Or.inl ⟨⟨Da 2 (by omega), ps a 2 0 (by omega) (by omega) (by omega), pn a 2 b 0 (by omega) (by omega) hab⟩, ps a 2 1 (by omega) (by omega) (by omega)⟩) (fun z => z.elim (fun z => nDn (e + 1) 0 (by omega) (by omega) z.1.1) (fun z => pn (e + 1) 0 e 0 (by omega) (by omega) (by omega) z)) (bN (e + 1) 0 (by omega) (by omega) (by omega)) (Pa 2 (by omega)) Pf y2 (by omega)
  have est : fz_st N (g a) (g b) = (fz_kd N.1 (g a) (g b), fz_F (fz_F (fz_F N.2.1 (6 * g a + 0) (6 * g b + 0)) (6 * g a + 1) (12 * g a + 3)) (6 * g a + 2) (12 * g a + 9), N.2.2 + fz_L N.2.1 (6 * g a + 0) (6 * g b + 0) + fz_L (fz_F N.2.1 (6 * g a + 0) (6 * g b + 0)) (6 * g a + 1) (12 * g a + 3) + fz_L (fz_F (fz_F N.2.1 (6 * g a + 0) (6 * g b + 0)) (6 * g a + 1) (12 * g a + 3)) (6 * g a + 2) (12 * g a + 9)) := by
    unfold fz_st fz_ops fz_tl
    rw [A, B, k2b, if_neg k2a, if_neg k2a, if_pos rfl]
    rfl
  have eL : fz_L h (md_p o a 0) (md_p o b 0) = 1 := by unfold fz_L; rw [if_pos hh]
  have ka : (upd (upd (upd (upd rk a (-1)) b (-1)) e 2) (e + 1) 2) a = -1 := by rw [pk_un (by omega), pk_un (by omega), pk_un hab, pk_us]
  have kb : (upd (upd (upd (upd rk a (-1)) b (-1)) e 2) (e + 1) 2) b = -1 := by rw [pk_un (by omega), pk_un (by omega), pk_us]
  have kk : ∀ c, c < e → c ≠ a → c ≠ b → (upd (upd (upd (upd rk a (-1)) b (-1)) e 2) (e + 1) 2) c = rk c := fun c hc n1 n2 => by rw [pk_un (by omega), pk_un (by omega), pk_un n2, pk_un n1]
  have ke : (upd (upd (upd (upd rk a (-1)) b (-1)) e 2) (e + 1) 2) e = 2 := by rw [pk_un (by omega), pk_us]
  have kf : (upd (upd (upd (upd rk a (-1)) b (-1)) e 2) (e + 1) 2) (e + 1) = 2 := pk_us
  have ck1 : fz_ck (rk a) (rk b) = 2 := by unfold fz_ck; rw [k2b, if_neg k2a, if_neg k2a, if_pos rfl]
  have ck2 : fz_ck (rk b) (rk a) = -1 := by unfold fz_ck; rw [k2b]; split <;> rfl
  refine ⟨g', ?_, by rw [est, F1.2, F2.2, F3.2, eL]⟩
  refine md_mk R ha hb la lb AC (by omega) hg ka kb kk (fun c h1 h2 => ?_) (fun n hn _ => ?_) (fun n _ z => ?_) ?_
  · rcases new c h1 h2 with rfl | rfl
    · refine ⟨Or.inl ⟨by omega, ke.trans ck1.symm⟩, fun c' h3 h4 z => ?_⟩
      rcases new c' h3 h4 with rfl | rfl
      · rfl
      · omega
    · refine ⟨Or.inl ⟨by omega, kf.trans ck1.symm⟩, fun c' h3 h4 z => ?_⟩
      rcases new c' h3 h4 with rfl | rfl
      · omega
      · rfl
  · by_cases c : n = 2 * g a
    · exact ⟨e, by omega, by omega, by omega⟩
    · exact ⟨e + 1, by omega, by omega, by omega⟩
  · exact absurd ck2 z
  · rw [est]
    refine md_HC F3.1 (md_DE (v := md_v e rk) ?_ ?_ ?_) (fun _ _ => rfl)
    · intro x ex
      have na : ∀ s, s < 3 → x ≠ md_p o a s := fun s hs z => nEa s hs (z ▸ ex)
      have nb : ∀ s, s < 3 → x ≠ md_p o b s := fun s hs z => nEb s hs (z ▸ ex)
      exact Or.inl ⟨Or.inl ⟨⟨Or.inl ex, na 0 (by omega), nb 0 (by omega)⟩, na 1 (by omega)⟩, na 2 (by omega)⟩
    · intro x ex ox z
      rcases z with ⟨⟨z, _⟩ | z, _⟩ | z
      · exact z.1.elim ex (fun z => ox z.1)
      · exact ox (z ▸ md_po)
      · exact ox (z ▸ md_po)
    · intro c s hs ex
      rw [md_Di ex hs]
      show _ ↔ s < md_v (e + 2) _ c
      simp only [Ne, md_pe hs (show 0 < 3 by omega), md_pe hs (show 1 < 3 by omega), md_pe hs (show 2 < 3 by omega)]
      have vv : md_v (e + 2) (upd (upd (upd (upd rk a (-1)) b (-1)) e 2) (e + 1) 2) c = if c = a then 0 else if c = b then 0 else if c = e then 1 else if c = e + 1 then 1 else md_v e rk c := by
        by_cases c1 : c = a
        · rw [if_pos c1, c1]; unfold md_v; rw [if_pos (by omega), ka]; rfl
        · rw [if_neg c1]
          by_cases c2 : c = b
          · rw [if_pos c2, c2]; unfold md_v; rw [if_pos (by omega), kb]; rfl
          · rw [if_neg c2]
            by_cases c3 : c = e
            · rw [if_pos c3, c3]; unfold md_v; rw [if_pos (by omega), ke]; rfl
            · rw [if_neg c3]
              by_cases c4 : c = e + 1
              · rw [if_pos c4, c4]; unfold md_v; rw [if_pos (by omega), kf]; rfl
              · rw [if_neg c4]
                unfold md_v
                by_cases c5 : c < e
                · rw [if_pos (by omega), if_pos c5, kk c c5 c1 c2]
                · rw [if_neg (by omega), if_neg c5]
      rw [vv]
      by_cases c1 : c = a
      · subst c1
        rw [if_pos rfl, va]; omega
      · rw [if_neg c1]
        by_cases c2 : c = b
        · subst c2
          rw [if_pos rfl, vb]; omega
        · rw [if_neg c2]
          by_cases c3 : c = e
          · subst c3
            rw [if_pos rfl, vn c (by omega)]; omega
          · rw [if_neg c3]
            by_cases c4 : c = e + 1
            · subst c4
              rw [if_pos rfl, vn (e + 1) (by omega)]; omega
            · rw [if_neg c4]; simp only [c1, c2, c3, c4, false_and, not_false_eq_true, and_true, or_false]
theorem fz_rc {p q L : Nat} {l : List (Nat × Nat)} {w : Nat → Nat} : fz_run ((p, q) :: l) (w, L) = fz_run l (fz_F w p q, L + fz_L w p q) := rfl
set_option maxHeartbeats 16000000 in
theorem md_cp {o : Nat} {E : Nat → Prop} {U : Nat → Nat} {e : Nat} {rk : Nat → Int32} {h g : Nat → Nat} {N : fz_N} (R : md_R o E U e rk h g N) {a b : Nat} (ha : a < e) (hb : b < e) (la : rk a ≠ -1) (lb : rk b ≠ -1) (hab : a ≠ b)
    (hh : h (md_p o a 0) = md_p o b 0) (k0 : rk a = 0) (k1 : rk b = 1) :
    ∃ g', md_R o E U (e + 4) (upd (upd (upd (upd (upd (upd rk a (-1)) b (-1)) e 1) (e + 1) 1) (e + 2) 0) (e + 3) 0) (md_J (md_J (md_J (md_J (md_M (md_M (md_M (md_M (fz_F h (md_p o a 0) (md_p o b 0)) (md_p o a 1) (md_p o e 0)) (md_p o a 2) (md_p o (e + 1) 0)) (md_p o b 1) (md_p o (e + 2) 0)) (md_p o b 2) (md_p o (e + 3) 0)) (md_p o e 1) (md_p o (e + 2) 1)) (md_p o e 2) (md_p o (e + 3) 1)) (md_p o (e + 1) 1) (md_p o (e + 2) 2)) (md_p o (e + 1) 2) (md_p o (e + 3) 2)) g' (fz_st N (g a) (g b)) ∧ (fz_st N (g a) (g b)).2.2 = N.2.2 + 1 := by
  obtain ⟨AC, k3a, k3b⟩ := md_face R ha hb la lb hab hh
  have R' := R
  obtain ⟨ok, ⟨k6, k7⟩, r1, r2, r3, r4, r5, r6⟩ := R'
  have A := r1 a ha la
  have B := r1 b hb lb
  have nba : b ≠ a := fun z => hab z.symm
  have hE : ∀ c s, s < 3 → E (md_p o c s) → c < e ∧ rk c = -1 := by
    intro c s hs z
    have q := (r4 _ z).1 md_po
    rw [md_pd hs] at q
    exact q
  have nEa : ∀ s, s < 3 → ¬ E (md_p o a s) := fun s hs z => la (hE a s hs z).2
  have nEb : ∀ s, s < 3 → ¬ E (md_p o b s) := fun s hs z => lb (hE b s hs z).2
  have nEn : ∀ c s, e ≤ c → s < 3 → ¬ E (md_p o c s) := fun c s hc hs z => by have := (hE c s hs z).1; omega
  have vn : ∀ c, e ≤ c → md_v e rk c = 0 := fun c hc => by unfold md_v; rw [if_neg (by omega)]
  have nDn : ∀ c s, e ≤ c → s < 3 → ¬ md_D o E (md_v e rk) (md_p o c s) := fun c s hc hs => md_Dn (nEn c s hc hs) (by rw [vn c hc]; omega) hs
  have sAB := fz_lsep ok AC.1 AC.2.1 AC.2.2.1
  unfold fz_sep at sAB
  have a16 := (ok.2 _ AC.1).1
  have b16 := (ok.2 _ AC.2.1).1
  have hD : ∀ x, md_D o E (md_v e rk) x → (fun x => E x ∨ (o ≤ x ∧ (((x - o) / 3 < e ∧ rk ((x - o) / 3) ≠ -1) ∨ (e ≤ (x - o) / 3 ∧ (x - o) / 3 < e + 4)))) x := md_DB e 4 rk
  have bN : ∀ c s, e ≤ c → c < e + 4 → s < 3 → (fun x => E x ∨ (o ≤ x ∧ (((x - o) / 3 < e ∧ rk ((x - o) / 3) ≠ -1) ∨ (e ≤ (x - o) / 3 ∧ (x - o) / 3 < e + 4)))) (md_p o c s) := fun c s h1 h2 hs => Or.inr ⟨md_po, Or.inr (by rw [md_pd hs]; exact ⟨h1, h2⟩)⟩
  have pn : ∀ c s c' s', s < 3 → s' < 3 → c ≠ c' → md_p o c s ≠ md_p o c' s' := fun c s c' s' h1 h2 n z => n ((md_pe h1 h2).mp z).1
  have ps : ∀ c s s', s < 3 → s' < 3 → s ≠ s' → md_p o c s ≠ md_p o c s' := fun c s s' h1 h2 n z => n ((md_pe h1 h2).mp z).2
  have va : md_v e rk a = 3 := by unfold md_v; rw [if_pos ha, k0]; rfl
  have vb : md_v e rk b = 3 := by unfold md_v; rw [if_pos hb, k1]; rfl
  obtain ⟨g', eg⟩ : ∃ g' : Nat → Nat, g' = (fun c => if c < e then g c else if c = e then 2 * g b else if c = e + 1 then 2 * g b + 1 else if c = e + 2 then 2 * g a else 2 * g a + 1) := ⟨_, rfl⟩
  have hg : ∀ c, c < e → g' c = g c := fun c hc => by rw [eg]; exact if_pos hc
  have gE0 : g' e = 2 * g b := by rw [eg]; dsimp only; rw [if_neg (by omega), if_pos rfl]
  have gE1 : g' (e + 1) = 2 * g b + 1 := by rw [eg]; dsimp only; rw [if_neg (by omega), if_neg (by omega), if_pos rfl]
  have gE2 : g' (e + 2) = 2 * g a := by rw [eg]; dsimp only; rw [if_neg (by omega), if_neg (by omega), if_neg (by omega), if_pos rfl]
  have gE3 : g' (e + 3) = 2 * g a + 1 := by rw [eg]; dsimp only; rw [if_neg (by omega), if_neg (by omega), if_neg (by omega), if_neg (by omega)]
  clear eg
  have new : ∀ c, e ≤ c → c < e + 4 → c = e ∨ c = e + 1 ∨ c = e + 2 ∨ c = e + 3 := fun c h1 h2 => by omega
  have nda : ∀ n, n / 2 = g a → ∀ c', c' < e → rk c' ≠ -1 → n ≠ g c' := by
    intro n hn c' hc' l z
    have q := ((ok.2 _ AC.1).2.2 n (fz_ds1 hn)).1
    rw [z, r1 c' hc' l] at q
    exact l q
  have ndb : ∀ n, n / 2 = g b → ∀ c', c' < e → rk c' ≠ -1 → n ≠ g c' := by
    intro n hn c' hc' l z
    have q := ((ok.2 _ AC.2.1).2.2 n (fz_ds1 hn)).1
    rw [z, r1 c' hc' l] at q
    exact l q
  have nin : ∀ c, e ≤ c → c < e + 4 → ∀ c', e ≤ c' → c' < e + 4 → g' c = g' c' → c = c' := by
    intro c h1 h2 c' h3 h4 z
    rcases new c h1 h2 with rfl | rfl | rfl | rfl <;> rcases new c' h3 h4 with z2 | z2 | z2 | z2 <;> first | (subst z2; rfl) | exact z2.symm | (rw [z2] at z; omega)
  have hB : md_B (fun x => E x ∨ (o ≤ x ∧ (((x - o) / 3 < e ∧ rk ((x - o) / 3) ≠ -1) ∨ (e ≤ (x - o) / 3 ∧ (x - o) / 3 < e + 4)))) (md_P o U g') := by
    refine md_Bok R hg (fun c h1 h2 => ?_)
    refine ⟨?_, ?_, fun c' h3 h4 z => nin c h1 h2 c' h3 h4 z⟩
    · rcases new c h1 h2 with rfl | rfl | rfl | rfl <;> omega
    · rcases new c h1 h2 with rfl | rfl | rfl | rfl
      · exact ndb _ (by omega)
      · exact ndb _ (by omega)
      · exact nda _ (by omega)
      · exact nda _ (by omega)
  have H0 : md_HR (fun x => md_D o E (md_v e rk) x) (md_P o U g') h N.2.1 := md_HC r6 (fun _ => Iff.rfl) (md_PD R hg)
  have Pa : ∀ s, s < 3 → md_P o U g' (md_p o a s) = 6 * g a + s := fun s hs => by rw [md_Pp hs, hg a ha]
  have Pb : ∀ s, s < 3 → md_P o U g' (md_p o b s) = 6 * g b + s := fun s hs => by rw [md_Pp hs, hg b hb]
  have Va0 := ((ok.2 _ AC.1).2.2 (2 * g a) (fz_ds1 (by omega))).2
  have Va1 := ((ok.2 _ AC.1).2.2 (2 * g a + 1) (fz_ds1 (by omega))).2
  have Vb0 := ((ok.2 _ AC.2.1).2.2 (2 * g b) (fz_ds1 (by omega))).2
  have Vb1 := ((ok.2 _ AC.2.1).2.2 (2 * g b + 1) (fz_ds1 (by omega))).2
  have Da : ∀ s, s < 3 → md_D o E (md_v e rk) (md_p o a s) := fun s hs => md_Dp (by rw [va]; exact hs) hs
  have Db : ∀ s, s < 3 → md_D o E (md_v e rk) (md_p o b s) := fun s hs => md_Dp (by rw [vb]; exact hs) hs
  obtain ⟨w1, hw1⟩ : ∃ w, w = fz_F N.2.1 (6 * g a + 0) (6 * g b + 0) := ⟨_, rfl⟩
  obtain ⟨w2, hw2⟩ : ∃ w, w = fz_F w1 (6 * g a + 1) (12 * g b + 3) := ⟨_, rfl⟩
  obtain ⟨w3, hw3⟩ : ∃ w, w = fz_F w2 (6 * g a + 2) (12 * g b + 9) := ⟨_, rfl⟩
  obtain ⟨w4, hw4⟩ : ∃ w, w = fz_F w3 (6 * g b + 1) (12 * g a + 3) := ⟨_, rfl⟩
  obtain ⟨w5, hw5⟩ : ∃ w, w = fz_F w4 (6 * g b + 2) (12 * g a + 9) := ⟨_, rfl⟩
  obtain ⟨w6, hw6⟩ : ∃ w, w = fz_F w5 (12 * g b + 4) (12 * g a + 4) := ⟨_, rfl⟩
  obtain ⟨w7, hw7⟩ : ∃ w, w = fz_F w6 (12 * g b + 5) (12 * g a + 10) := ⟨_, rfl⟩
  obtain ⟨w8, hw8⟩ : ∃ w, w = fz_F w7 (12 * g b + 10) (12 * g a + 5) := ⟨_, rfl⟩
  obtain ⟨w9, hw9⟩ : ∃ w, w = fz_F w8 (12 * g b + 11) (12 * g a + 11) := ⟨_, rfl⟩
  have i0 : fz_I N.2.1 := ok.1
  have i1 : fz_I w1 := by rw [hw1]; exact fz_inv i0 (by omega)
  have i2 : fz_I w2 := by rw [hw2]; exact fz_inv i1 (by omega)
  have i3 : fz_I w3 := by rw [hw3]; exact fz_inv i2 (by omega)
  have i4 : fz_I w4 := by rw [hw4]; exact fz_inv i3 (by omega)
  have i5 : fz_I w5 := by rw [hw5]; exact fz_inv i4 (by omega)
  have i6 : fz_I w6 := by rw [hw6]; exact fz_inv i5 (by omega)
  have i7 : fz_I w7 := by rw [hw7]; exact fz_inv i6 (by omega)
  have i8 : fz_I w8 := by rw [hw8]; exact fz_inv i7 (by omega)
  have i9 : fz_I w9 := by rw [hw9]; exact fz_inv i8 (by omega)
  have f0_E0_0 : N.2.1 (12 * g b) = 12 * g b + 3 := md_vg0 Vb0 (i := 0) (by omega)
  have f1_E0_0 : w1 (12 * g b) = 12 * g b + 3 := by rw [hw1]; exact md_FK f0_E0_0 (by omega) (by omega) (by omega) (by omega)
  have f0_E0_1 : N.2.1 (12 * g b + 1) = 12 * g b + 4 := md_vg0 Vb0 (i := 1) (by omega)
  have f1_E0_1 : w1 (12 * g b + 1) = 12 * g b + 4 := by rw [hw1]; exact md_FK f0_E0_1 (by omega) (by omega) (by omega) (by omega)
  have f2_E0_1 : w2 (12 * g b + 1) = 12 * g b + 4 := by rw [hw2]; exact md_FK f1_E0_1 (by omega) (by omega) (by omega) (by omega)
  have f3_E0_1 : w3 (12 * g b + 1) = 12 * g b + 4 := by rw [hw3]; exact md_FK f2_E0_1 (by omega) (by omega) (by omega) (by omega)
  have f4_E0_1 : w4 (12 * g b + 1) = 12 * g b + 4 := by rw [hw4]; exact md_FK f3_E0_1 (by omega) (by omega) (by omega) (by omega)
  have f5_E0_1 : w5 (12 * g b + 1) = 12 * g b + 4 := by rw [hw5]; exact md_FK f4_E0_1 (by omega) (by omega) (by omega) (by omega)
  have f0_E0_2 : N.2.1 (12 * g b + 2) = 12 * g b + 5 := md_vg0 Vb0 (i := 2) (by omega)
  have f1_E0_2 : w1 (12 * g b + 2) = 12 * g b + 5 := by rw [hw1]; exact md_FK f0_E0_2 (by omega) (by omega) (by omega) (by omega)
  have f2_E0_2 : w2 (12 * g b + 2) = 12 * g b + 5 := by rw [hw2]; exact md_FK f1_E0_2 (by omega) (by omega) (by omega) (by omega)
  have f3_E0_2 : w3 (12 * g b + 2) = 12 * g b + 5 := by rw [hw3]; exact md_FK f2_E0_2 (by omega) (by omega) (by omega) (by omega)
  have f4_E0_2 : w4 (12 * g b + 2) = 12 * g b + 5 := by rw [hw4]; exact md_FK f3_E0_2 (by omega) (by omega) (by omega) (by omega)
  have f5_E0_2 : w5 (12 * g b + 2) = 12 * g b + 5 := by rw [hw5]; exact md_FK f4_E0_2 (by omega) (by omega) (by omega) (by omega)
  have f6_E0_2 : w6 (12 * g b + 2) = 12 * g b + 5 := by rw [hw6]; exact md_FK f5_E0_2 (by omega) (by omega) (by omega) (by omega)
  have f0_E1_0 : N.2.1 (12 * g b + 6) = 12 * g b + 9 := md_vg1 Vb1 (i := 0) (by omega)
  have f1_E1_0 : w1 (12 * g b + 6) = 12 * g b + 9 := by rw [hw1]; exact md_FK f0_E1_0 (by omega) (by omega) (by omega) (by omega)
  have f2_E1_0 : w2 (12 * g b + 6) = 12 * g b + 9 := by rw [hw2]; exact md_FK f1_E1_0 (by omega) (by omega) (by omega) (by omega)
  have f0_E1_1 : N.2.1 (12 * g b + 7) = 12 * g b + 10 := md_vg1 Vb1 (i := 1) (by omega)
  have f1_E1_1 : w1 (12 * g b + 7) = 12 * g b + 10 := by rw [hw1]; exact md_FK f0_E1_1 (by omega) (by omega) (by omega) (by omega)
  have f2_E1_1 : w2 (12 * g b + 7) = 12 * g b + 10 := by rw [hw2]; exact md_FK f1_E1_1 (by omega) (by omega) (by omega) (by omega)
  have f3_E1_1 : w3 (12 * g b + 7) = 12 * g b + 10 := by rw [hw3]; exact md_FK f2_E1_1 (by omega) (by omega) (by omega) (by omega)
  have f4_E1_1 : w4 (12 * g b + 7) = 12 * g b + 10 := by rw [hw4]; exact md_FK f3_E1_1 (by omega) (by omega) (by omega) (by omega)
  have f5_E1_1 : w5 (12 * g b + 7) = 12 * g b + 10 := by rw [hw5]; exact md_FK f4_E1_1 (by omega) (by omega) (by omega) (by omega)
  have f6_E1_1 : w6 (12 * g b + 7) = 12 * g b + 10 := by rw [hw6]; exact md_FK f5_E1_1 (by omega) (by omega) (by omega) (by omega)
  have f7_E1_1 : w7 (12 * g b + 7) = 12 * g b + 10 := by rw [hw7]; exact md_FK f6_E1_1 (by omega) (by omega) (by omega) (by omega)
  have f0_E1_2 : N.2.1 (12 * g b + 8) = 12 * g b + 11 := md_vg1 Vb1 (i := 2) (by omega)
  have f1_E1_2 : w1 (12 * g b + 8) = 12 * g b + 11 := by rw [hw1]; exact md_FK f0_E1_2 (by omega) (by omega) (by omega) (by omega)
  have f2_E1_2 : w2 (12 * g b + 8) = 12 * g b + 11 := by rw [hw2]; exact md_FK f1_E1_2 (by omega) (by omega) (by omega) (by omega)
  have f3_E1_2 : w3 (12 * g b + 8) = 12 * g b + 11 := by rw [hw3]; exact md_FK f2_E1_2 (by omega) (by omega) (by omega) (by omega)
  have f4_E1_2 : w4 (12 * g b + 8) = 12 * g b + 11 := by rw [hw4]; exact md_FK f3_E1_2 (by omega) (by omega) (by omega) (by omega)
  have f5_E1_2 : w5 (12 * g b + 8) = 12 * g b + 11 := by rw [hw5]; exact md_FK f4_E1_2 (by omega) (by omega) (by omega) (by omega)
  have f6_E1_2 : w6 (12 * g b + 8) = 12 * g b + 11 := by rw [hw6]; exact md_FK f5_E1_2 (by omega) (by omega) (by omega) (by omega)
  have f7_E1_2 : w7 (12 * g b + 8) = 12 * g b + 11 := by rw [hw7]; exact md_FK f6_E1_2 (by omega) (by omega) (by omega) (by omega)
  have f8_E1_2 : w8 (12 * g b + 8) = 12 * g b + 11 := by rw [hw8]; exact md_FK f7_E1_2 (by omega) (by omega) (by omega) (by omega)
  have f0_E2_0 : N.2.1 (12 * g a) = 12 * g a + 3 := md_vg0 Va0 (i := 0) (by omega)
  have f1_E2_0 : w1 (12 * g a) = 12 * g a + 3 := by rw [hw1]; exact md_FK f0_E2_0 (by omega) (by omega) (by omega) (by omega)
  have f2_E2_0 : w2 (12 * g a) = 12 * g a + 3 := by rw [hw2]; exact md_FK f1_E2_0 (by omega) (by omega) (by omega) (by omega)
  have f3_E2_0 : w3 (12 * g a) = 12 * g a + 3 := by rw [hw3]; exact md_FK f2_E2_0 (by omega) (by omega) (by omega) (by omega)
  have f0_E2_1 : N.2.1 (12 * g a + 1) = 12 * g a + 4 := md_vg0 Va0 (i := 1) (by omega)
  have f1_E2_1 : w1 (12 * g a + 1) = 12 * g a + 4 := by rw [hw1]; exact md_FK f0_E2_1 (by omega) (by omega) (by omega) (by omega)
  have f2_E2_1 : w2 (12 * g a + 1) = 12 * g a + 4 := by rw [hw2]; exact md_FK f1_E2_1 (by omega) (by omega) (by omega) (by omega)
  have f3_E2_1 : w3 (12 * g a + 1) = 12 * g a + 4 := by rw [hw3]; exact md_FK f2_E2_1 (by omega) (by omega) (by omega) (by omega)
  have f4_E2_1 : w4 (12 * g a + 1) = 12 * g a + 4 := by rw [hw4]; exact md_FK f3_E2_1 (by omega) (by omega) (by omega) (by omega)
  have f5_E2_1 : w5 (12 * g a + 1) = 12 * g a + 4 := by rw [hw5]; exact md_FK f4_E2_1 (by omega) (by omega) (by omega) (by omega)
  have f0_E2_2 : N.2.1 (12 * g a + 2) = 12 * g a + 5 := md_vg0 Va0 (i := 2) (by omega)
  have f1_E2_2 : w1 (12 * g a + 2) = 12 * g a + 5 := by rw [hw1]; exact md_FK f0_E2_2 (by omega) (by omega) (by omega) (by omega)
  have f2_E2_2 : w2 (12 * g a + 2) = 12 * g a + 5 := by rw [hw2]; exact md_FK f1_E2_2 (by omega) (by omega) (by omega) (by omega)
  have f3_E2_2 : w3 (12 * g a + 2) = 12 * g a + 5 := by rw [hw3]; exact md_FK f2_E2_2 (by omega) (by omega) (by omega) (by omega)
  have f4_E2_2 : w4 (12 * g a + 2) = 12 * g a + 5 := by rw [hw4]; exact md_FK f3_E2_2 (by omega) (by omega) (by omega) (by omega)
  have f5_E2_2 : w5 (12 * g a + 2) = 12 * g a + 5 := by rw [hw5]; exact md_FK f4_E2_2 (by omega) (by omega) (by omega) (by omega)
  have f6_E2_2 : w6 (12 * g a + 2) = 12 * g a + 5 := by rw [hw6]; exact md_FK f5_E2_2 (by omega) (by omega) (by omega) (by omega)
  have f7_E2_2 : w7 (12 * g a + 2) = 12 * g a + 5 := by rw [hw7]; exact md_FK f6_E2_2 (by omega) (by omega) (by omega) (by omega)
  have f0_E3_0 : N.2.1 (12 * g a + 6) = 12 * g a + 9 := md_vg1 Va1 (i := 0) (by omega)
  have f1_E3_0 : w1 (12 * g a + 6) = 12 * g a + 9 := by rw [hw1]; exact md_FK f0_E3_0 (by omega) (by omega) (by omega) (by omega)
  have f2_E3_0 : w2 (12 * g a + 6) = 12 * g a + 9 := by rw [hw2]; exact md_FK f1_E3_0 (by omega) (by omega) (by omega) (by omega)
  have f3_E3_0 : w3 (12 * g a + 6) = 12 * g a + 9 := by rw [hw3]; exact md_FK f2_E3_0 (by omega) (by omega) (by omega) (by omega)
  have f4_E3_0 : w4 (12 * g a + 6) = 12 * g a + 9 := by rw [hw4]; exact md_FK f3_E3_0 (by omega) (by omega) (by omega) (by omega)
  have f0_E3_1 : N.2.1 (12 * g a + 7) = 12 * g a + 10 := md_vg1 Va1 (i := 1) (by omega)
  have f1_E3_1 : w1 (12 * g a + 7) = 12 * g a + 10 := by rw [hw1]; exact md_FK f0_E3_1 (by omega) (by omega) (by omega) (by omega)
  have f2_E3_1 : w2 (12 * g a + 7) = 12 * g a + 10 := by rw [hw2]; exact md_FK f1_E3_1 (by omega) (by omega) (by omega) (by omega)
  have f3_E3_1 : w3 (12 * g a + 7) = 12 * g a + 10 := by rw [hw3]; exact md_FK f2_E3_1 (by omega) (by omega) (by omega) (by omega)
  have f4_E3_1 : w4 (12 * g a + 7) = 12 * g a + 10 := by rw [hw4]; exact md_FK f3_E3_1 (by omega) (by omega) (by omega) (by omega)
  have f5_E3_1 : w5 (12 * g a + 7) = 12 * g a + 10 := by rw [hw5]; exact md_FK f4_E3_1 (by omega) (by omega) (by omega) (by omega)
  have f6_E3_1 : w6 (12 * g a + 7) = 12 * g a + 10 := by rw [hw6]; exact md_FK f5_E3_1 (by omega) (by omega) (by omega) (by omega)
  have f0_E3_2 : N.2.1 (12 * g a + 8) = 12 * g a + 11 := md_vg1 Va1 (i := 2) (by omega)
  have f1_E3_2 : w1 (12 * g a + 8) = 12 * g a + 11 := by rw [hw1]; exact md_FK f0_E3_2 (by omega) (by omega) (by omega) (by omega)
  have f2_E3_2 : w2 (12 * g a + 8) = 12 * g a + 11 := by rw [hw2]; exact md_FK f1_E3_2 (by omega) (by omega) (by omega) (by omega)
  have f3_E3_2 : w3 (12 * g a + 8) = 12 * g a + 11 := by rw [hw3]; exact md_FK f2_E3_2 (by omega) (by omega) (by omega) (by omega)
  have f4_E3_2 : w4 (12 * g a + 8) = 12 * g a + 11 := by rw [hw4]; exact md_FK f3_E3_2 (by omega) (by omega) (by omega) (by omega)
  have f5_E3_2 : w5 (12 * g a + 8) = 12 * g a + 11 := by rw [hw5]; exact md_FK f4_E3_2 (by omega) (by omega) (by omega) (by omega)
  have f6_E3_2 : w6 (12 * g a + 8) = 12 * g a + 11 := by rw [hw6]; exact md_FK f5_E3_2 (by omega) (by omega) (by omega) (by omega)
  have f7_E3_2 : w7 (12 * g a + 8) = 12 * g a + 11 := by rw [hw7]; exact md_FK f6_E3_2 (by omega) (by omega) (by omega) (by omega)
  have f8_E3_2 : w8 (12 * g a + 8) = 12 * g a + 11 := by rw [hw8]; exact md_FK f7_E3_2 (by omega) (by omega) (by omega) (by omega)
  have PE0_0 : md_P o U g' (md_p o e 0) = 12 * g b := by rw [md_Pp (by omega), gE0]; omega
  have PE0_1 : md_P o U g' (md_p o e 1) = 12 * g b + 1 := by rw [md_Pp (by omega), gE0]; omega
  have PE0_2 : md_P o U g' (md_p o e 2) = 12 * g b + 2 := by rw [md_Pp (by omega), gE0]; omega
  have PE1_0 : md_P o U g' (md_p o (e + 1) 0) = 12 * g b + 6 := by rw [md_Pp (by omega), gE1]; omega
  have PE1_1 : md_P o U g' (md_p o (e + 1) 1) = 12 * g b + 7 := by rw [md_Pp (by omega), gE1]; omega
  have PE1_2 : md_P o U g' (md_p o (e + 1) 2) = 12 * g b + 8 := by rw [md_Pp (by omega), gE1]; omega
  have PE2_0 : md_P o U g' (md_p o (e + 2) 0) = 12 * g a := by rw [md_Pp (by omega), gE2]; omega
  have PE2_1 : md_P o U g' (md_p o (e + 2) 1) = 12 * g a + 1 := by rw [md_Pp (by omega), gE2]; omega
  have PE2_2 : md_P o U g' (md_p o (e + 2) 2) = 12 * g a + 2 := by rw [md_Pp (by omega), gE2]; omega
  have PE3_0 : md_P o U g' (md_p o (e + 3) 0) = 12 * g a + 6 := by rw [md_Pp (by omega), gE3]; omega
  have PE3_1 : md_P o U g' (md_p o (e + 3) 1) = 12 * g a + 7 := by rw [md_Pp (by omega), gE3]; omega
  have PE3_2 : md_P o U g' (md_p o (e + 3) 2) = 12 * g a + 8 := by rw [md_Pp (by omega), gE3]; omega
  have K1 : md_HR (fun x => (md_D o E (md_v e rk) x ∧ x ≠ (md_p o a 0) ∧ x ≠ (md_p o b 0))) (md_P o U g') (fz_F h (md_p o a 0) (md_p o b 0)) w1 ∧ fz_L N.2.1 (6 * g a + 0) (6 * g b + 0) = fz_L h (md_p o a 0) (md_p o b 0) := by
    rw [hw1]
    exact md_HF hB hD i0 H0 (Da 0 (by omega)) (Db 0 (by omega)) (pn a 0 b 0 (by omega) (by omega) hab) (Pa 0 (by omega)) (Pb 0 (by omega))
  have G1 := K1.1
  have hD1 : ∀ x, (md_D o E (md_v e rk) x ∧ x ≠ (md_p o a 0) ∧ x ≠ (md_p o b 0)) → (fun x => E x ∨ (o ≤ x ∧ (((x - o) / 3 < e ∧ rk ((x - o) / 3) ≠ -1) ∨ (e ≤ (x - o) / 3 ∧ (x - o) / 3 < e + 4)))) x := fun x z => hD x z.1
  have K2 : md_HR (fun x => (((md_D o E (md_v e rk) x ∧ x ≠ (md_p o a 0) ∧ x ≠ (md_p o b 0)) ∧ x ≠ (md_p o a 1)) ∨ x = (md_p o e 0))) (md_P o U g') (md_M (fz_F h (md_p o a 0) (md_p o b 0)) (md_p o a 1) (md_p o e 0)) w2 ∧ fz_L w1 (6 * g a + 1) (12 * g b + 3) = 0 := by
    rw [hw2]
    exact md_HM hB hD1 i1 G1 (p := (md_p o a 1)) (t := (md_p o e 0)) ⟨(Da 1 (by omega)), (ps a 1 0 (by omega) (by omega) (by omega)), (pn a 1 b 0 (by omega) (by omega) (by omega))⟩ (fun z => (nDn e 0 (by omega) (by omega) z.1)) (bN e 0 (by omega) (by omega) (by omega)) (Pa 1 (by omega)) PE0_0 f1_E0_0 (by omega)
  have G2 := K2.1
  have hD2 : ∀ x, (((md_D o E (md_v e rk) x ∧ x ≠ (md_p o a 0) ∧ x ≠ (md_p o b 0)) ∧ x ≠ (md_p o a 1)) ∨ x = (md_p o e 0)) → (fun x => E x ∨ (o ≤ x ∧ (((x - o) / 3 < e ∧ rk ((x - o) / 3) ≠ -1) ∨ (e ≤ (x - o) / 3 ∧ (x - o) / 3 < e + 4)))) x := fun x z => z.elim (fun z => hD1 x z.1) (fun z => z ▸ bN e 0 (by omega) (by omega) (by omega))
  have K3 : md_HR (fun x => (((((md_D o E (md_v e rk) x ∧ x ≠ (md_p o a 0) ∧ x ≠ (md_p o b 0)) ∧ x ≠ (md_p o a 1)) ∨ x = (md_p o e 0)) ∧ x ≠ (md_p o a 2)) ∨ x = (md_p o (e + 1) 0))) (md_P o U g') (md_M (md_M (fz_F h (md_p o a 0) (md_p o b 0)) (md_p o a 1) (md_p o e 0)) (md_p o a 2) (md_p o (e + 1) 0)) w3 ∧ fz_L w2 (6 * g a + 2) (12 * g b + 9) = 0 := by
    rw [hw3]
    exact md_HM hB hD2 i2 G2 (p := (md_p o a 2)) (t := (md_p o (e + 1) 0)) (Or.inl ⟨⟨(Da 2 (by omega)), (ps a 2 0 (by omega) (by omega) (by omega)), (pn a 2 b 0 (by omega) (by omega) (by omega))⟩, (ps a 2 1 (by omega) (by omega) (by omega))⟩) (fun z => (z.elim (fun z2 => (nDn (e + 1) 0 (by omega) (by omega) z2.1.1)) (fun z2 => (pn (e + 1) 0 e 0 (by omega) (by omega) (by omega) z2)))) (bN (e + 1) 0 (by omega) (by omega) (by omega)) (Pa 2 (by omega)) PE1_0 f2_E1_0 (by omega)
  have G3 := K3.1
  have hD3 : ∀ x, (((((md_D o E (md_v e rk) x ∧ x ≠ (md_p o a 0) ∧ x ≠ (md_p o b 0)) ∧ x ≠ (md_p o a 1)) ∨ x = (md_p o e 0)) ∧ x ≠ (md_p o a 2)) ∨ x = (md_p o (e + 1) 0)) → (fun x => E x ∨ (o ≤ x ∧ (((x - o) / 3 < e ∧ rk ((x - o) / 3) ≠ -1) ∨ (e ≤ (x - o) / 3 ∧ (x - o) / 3 < e + 4)))) x := fun x z => z.elim (fun z => hD2 x z.1) (fun z => z ▸ bN (e + 1) 0 (by omega) (by omega) (by omega))
  have K4 : md_HR (fun x => (((((((md_D o E (md_v e rk) x ∧ x ≠ (md_p o a 0) ∧ x ≠ (md_p o b 0)) ∧ x ≠ (md_p o a 1)) ∨ x = (md_p o e 0)) ∧ x ≠ (md_p o a 2)) ∨ x = (md_p o (e + 1) 0)) ∧ x ≠ (md_p o b 1)) ∨ x = (md_p o (e + 2) 0))) (md_P o U g') (md_M (md_M (md_M (fz_F h (md_p o a 0) (md_p o b 0)) (md_p o a 1) (md_p o e 0)) (md_p o a 2) (md_p o (e + 1) 0)) (md_p o b 1) (md_p o (e + 2) 0)) w4 ∧ fz_L w3 (6 * g b + 1) (12 * g a + 3) = 0 := by
    rw [hw4]
    exact md_HM hB hD3 i3 G3 (p := (md_p o b 1)) (t := (md_p o (e + 2) 0)) (Or.inl ⟨(Or.inl ⟨⟨(Db 1 (by omega)), (pn b 1 a 0 (by omega) (by omega) (by omega)), (ps b 1 0 (by omega) (by omega) (by omega))⟩, (pn b 1 a 1 (by omega) (by omega) (by omega))⟩), (pn b 1 a 2 (by omega) (by omega) (by omega))⟩) (fun z => (z.elim (fun z3 => (z3.1.elim (fun z2 => (nDn (e + 2) 0 (by omega) (by omega) z2.1.1)) (fun z2 => (pn (e + 2) 0 e 0 (by omega) (by omega) (by omega) z2)))) (fun z3 => (pn (e + 2) 0 (e + 1) 0 (by omega) (by omega) (by omega) z3)))) (bN (e + 2) 0 (by omega) (by omega) (by omega)) (Pb 1 (by omega)) PE2_0 f3_E2_0 (by omega)
  have G4 := K4.1
  have hD4 : ∀ x, (((((((md_D o E (md_v e rk) x ∧ x ≠ (md_p o a 0) ∧ x ≠ (md_p o b 0)) ∧ x ≠ (md_p o a 1)) ∨ x = (md_p o e 0)) ∧ x ≠ (md_p o a 2)) ∨ x = (md_p o (e + 1) 0)) ∧ x ≠ (md_p o b 1)) ∨ x = (md_p o (e + 2) 0)) → (fun x => E x ∨ (o ≤ x ∧ (((x - o) / 3 < e ∧ rk ((x - o) / 3) ≠ -1) ∨ (e ≤ (x - o) / 3 ∧ (x - o) / 3 < e + 4)))) x := fun x z => z.elim (fun z => hD3 x z.1) (fun z => z ▸ bN (e + 2) 0 (by omega) (by omega) (by omega))
  have K5 : md_HR (fun x => (((((((((md_D o E (md_v e rk) x ∧ x ≠ (md_p o a 0) ∧ x ≠ (md_p o b 0)) ∧ x ≠ (md_p o a 1)) ∨ x = (md_p o e 0)) ∧ x ≠ (md_p o a 2)) ∨ x = (md_p o (e + 1) 0)) ∧ x ≠ (md_p o b 1)) ∨ x = (md_p o (e + 2) 0)) ∧ x ≠ (md_p o b 2)) ∨ x = (md_p o (e + 3) 0))) (md_P o U g') (md_M (md_M (md_M (md_M (fz_F h (md_p o a 0) (md_p o b 0)) (md_p o a 1) (md_p o e 0)) (md_p o a 2) (md_p o (e + 1) 0)) (md_p o b 1) (md_p o (e + 2) 0)) (md_p o b 2) (md_p o (e + 3) 0)) w5 ∧ fz_L w4 (6 * g b + 2) (12 * g a + 9) = 0 := by
    rw [hw5]
    exact md_HM hB hD4 i4 G4 (p := (md_p o b 2)) (t := (md_p o (e + 3) 0)) (Or.inl ⟨(Or.inl ⟨(Or.inl ⟨⟨(Db 2 (by omega)), (pn b 2 a 0 (by omega) (by omega) (by omega)), (ps b 2 0 (by omega) (by omega) (by omega))⟩, (pn b 2 a 1 (by omega) (by omega) (by omega))⟩), (pn b 2 a 2 (by omega) (by omega) (by omega))⟩), (ps b 2 1 (by omega) (by omega) (by omega))⟩) (fun z => (z.elim (fun z4 => (z4.1.elim (fun z3 => (z3.1.elim (fun z2 => (nDn (e + 3) 0 (by omega) (by omega) z2.1.1)) (fun z2 => (pn (e + 3) 0 e 0 (by omega) (by omega) (by omega) z2)))) (fun z3 => (pn (e + 3) 0 (e + 1) 0 (by omega) (by omega) (by omega) z3)))) (fun z4 => (pn (e + 3) 0 (e + 2) 0 (by omega) (by omega) (by omega) z4)))) (bN (e + 3) 0 (by omega) (by omega) (by omega)) (Pb 2 (by omega)) PE3_0 f4_E3_0 (by omega)
  have G5 := K5.1
  have hD5 : ∀ x, (((((((((md_D o E (md_v e rk) x ∧ x ≠ (md_p o a 0) ∧ x ≠ (md_p o b 0)) ∧ x ≠ (md_p o a 1)) ∨ x = (md_p o e 0)) ∧ x ≠ (md_p o a 2)) ∨ x = (md_p o (e + 1) 0)) ∧ x ≠ (md_p o b 1)) ∨ x = (md_p o (e + 2) 0)) ∧ x ≠ (md_p o b 2)) ∨ x = (md_p o (e + 3) 0)) → (fun x => E x ∨ (o ≤ x ∧ (((x - o) / 3 < e ∧ rk ((x - o) / 3) ≠ -1) ∨ (e ≤ (x - o) / 3 ∧ (x - o) / 3 < e + 4)))) x := fun x z => z.elim (fun z => hD4 x z.1) (fun z => z ▸ bN (e + 3) 0 (by omega) (by omega) (by omega))
  have K6 : md_HR (fun x => ((((((((((md_D o E (md_v e rk) x ∧ x ≠ (md_p o a 0) ∧ x ≠ (md_p o b 0)) ∧ x ≠ (md_p o a 1)) ∨ x = (md_p o e 0)) ∧ x ≠ (md_p o a 2)) ∨ x = (md_p o (e + 1) 0)) ∧ x ≠ (md_p o b 1)) ∨ x = (md_p o (e + 2) 0)) ∧ x ≠ (md_p o b 2)) ∨ x = (md_p o (e + 3) 0)) ∨ x = (md_p o e 1) ∨ x = (md_p o (e + 2) 1))) (md_P o U g') (md_J (md_M (md_M (md_M (md_M (fz_F h (md_p o a 0) (md_p o b 0)) (md_p o a 1) (md_p o e 0)) (md_p o a 2) (md_p o (e + 1) 0)) (md_p o b 1) (md_p o (e + 2) 0)) (md_p o b 2) (md_p o (e + 3) 0)) (md_p o e 1) (md_p o (e + 2) 1)) w6 ∧ fz_L w5 (12 * g b + 4) (12 * g a + 4) = 0 := by
    rw [hw6]
    exact md_HJ hB hD5 i5 G5 (s := (md_p o e 1)) (t := (md_p o (e + 2) 1)) (fun z => (z.elim (fun z5 => (z5.1.elim (fun z4 => (z4.1.elim (fun z3 => (z3.1.elim (fun z2 => (nDn e 1 (by omega) (by omega) z2.1.1)) (fun z2 => (ps e 1 0 (by omega) (by omega) (by omega) z2)))) (fun z3 => (pn e 1 (e + 1) 0 (by omega) (by omega) (by omega) z3)))) (fun z4 => (pn e 1 (e + 2) 0 (by omega) (by omega) (by omega) z4)))) (fun z5 => (pn e 1 (e + 3) 0 (by omega) (by omega) (by omega) z5)))) (fun z => (z.elim (fun z5 => (z5.1.elim (fun z4 => (z4.1.elim (fun z3 => (z3.1.elim (fun z2 => (nDn (e + 2) 1 (by omega) (by omega) z2.1.1)) (fun z2 => (pn (e + 2) 1 e 0 (by omega) (by omega) (by omega) z2)))) (fun z3 => (pn (e + 2) 1 (e + 1) 0 (by omega) (by omega) (by omega) z3)))) (fun z4 => (ps (e + 2) 1 0 (by omega) (by omega) (by omega) z4)))) (fun z5 => (pn (e + 2) 1 (e + 3) 0 (by omega) (by omega) (by omega) z5)))) (bN e 1 (by omega) (by omega) (by omega)) (bN (e + 2) 1 (by omega) (by omega) (by omega)) (pn e 1 (e + 2) 1 (by omega) (by omega) (by omega)) PE0_1 PE2_1 f5_E0_1 (by omega) f5_E2_1 (by omega)
  have G6 := K6.1
  have hD6 : ∀ x, ((((((((((md_D o E (md_v e rk) x ∧ x ≠ (md_p o a 0) ∧ x ≠ (md_p o b 0)) ∧ x ≠ (md_p o a 1)) ∨ x = (md_p o e 0)) ∧ x ≠ (md_p o a 2)) ∨ x = (md_p o (e + 1) 0)) ∧ x ≠ (md_p o b 1)) ∨ x = (md_p o (e + 2) 0)) ∧ x ≠ (md_p o b 2)) ∨ x = (md_p o (e + 3) 0)) ∨ x = (md_p o e 1) ∨ x = (md_p o (e + 2) 1)) → (fun x => E x ∨ (o ≤ x ∧ (((x - o) / 3 < e ∧ rk ((x - o) / 3) ≠ -1) ∨ (e ≤ (x - o) / 3 ∧ (x - o) / 3 < e + 4)))) x := fun x z => z.elim (fun z => hD5 x z) (fun z => z.elim (fun z => z ▸ bN e 1 (by omega) (by omega) (by omega)) (fun z => z ▸ bN (e + 2) 1 (by omega) (by omega) (by omega)))
  have K7 : md_HR (fun x => (((((((((((md_D o E (md_v e rk) x ∧ x ≠ (md_p o a 0) ∧ x ≠ (md_p o b 0)) ∧ x ≠ (md_p o a 1)) ∨ x = (md_p o e 0)) ∧ x ≠ (md_p o a 2)) ∨ x = (md_p o (e + 1) 0)) ∧ x ≠ (md_p o b 1)) ∨ x = (md_p o (e + 2) 0)) ∧ x ≠ (md_p o b 2)) ∨ x = (md_p o (e + 3) 0)) ∨ x = (md_p o e 1) ∨ x = (md_p o (e + 2) 1)) ∨ x = (md_p o e 2) ∨ x = (md_p o (e + 3) 1))) (md_P o U g') (md_J (md_J (md_M (md_M (md_M (md_M (fz_F h (md_p o a 0) (md_p o b 0)) (md_p o a 1) (md_p o e 0)) (md_p o a 2) (md_p o (e + 1) 0)) (md_p o b 1) (md_p o (e + 2) 0)) (md_p o b 2) (md_p o (e + 3) 0)) (md_p o e 1) (md_p o (e + 2) 1)) (md_p o e 2) (md_p o (e + 3) 1)) w7 ∧ fz_L w6 (12 * g b + 5) (12 * g a + 10) = 0 := by
    rw [hw7]
    exact md_HJ hB hD6 i6 G6 (s := (md_p o e 2)) (t := (md_p o (e + 3) 1)) (fun z => (z.elim (fun z6 => (z6.elim (fun z5 => (z5.1.elim (fun z4 => (z4.1.elim (fun z3 => (z3.1.elim (fun z2 => (nDn e 2 (by omega) (by omega) z2.1.1)) (fun z2 => (ps e 2 0 (by omega) (by omega) (by omega) z2)))) (fun z3 => (pn e 2 (e + 1) 0 (by omega) (by omega) (by omega) z3)))) (fun z4 => (pn e 2 (e + 2) 0 (by omega) (by omega) (by omega) z4)))) (fun z5 => (pn e 2 (e + 3) 0 (by omega) (by omega) (by omega) z5)))) (fun z6 => z6.elim (fun y6 => (ps e 2 1 (by omega) (by omega) (by omega) y6)) (fun y6 => (pn e 2 (e + 2) 1 (by omega) (by omega) (by omega) y6))))) (fun z => (z.elim (fun z6 => (z6.elim (fun z5 => (z5.1.elim (fun z4 => (z4.1.elim (fun z3 => (z3.1.elim (fun z2 => (nDn (e + 3) 1 (by omega) (by omega) z2.1.1)) (fun z2 => (pn (e + 3) 1 e 0 (by omega) (by omega) (by omega) z2)))) (fun z3 => (pn (e + 3) 1 (e + 1) 0 (by omega) (by omega) (by omega) z3)))) (fun z4 => (pn (e + 3) 1 (e + 2) 0 (by omega) (by omega) (by omega) z4)))) (fun z5 => (ps (e + 3) 1 0 (by omega) (by omega) (by omega) z5)))) (fun z6 => z6.elim (fun y6 => (pn (e + 3) 1 e 1 (by omega) (by omega) (by omega) y6)) (fun y6 => (pn (e + 3) 1 (e + 2) 1 (by omega) (by omega) (by omega) y6))))) (bN e 2 (by omega) (by omega) (by omega)) (bN (e + 3) 1 (by omega) (by omega) (by omega)) (pn e 2 (e + 3) 1 (by omega) (by omega) (by omega)) PE0_2 PE3_1 f6_E0_2 (by omega) f6_E3_1 (by omega)
  have G7 := K7.1
  have hD7 : ∀ x, (((((((((((md_D o E (md_v e rk) x ∧ x ≠ (md_p o a 0) ∧ x ≠ (md_p o b 0)) ∧ x ≠ (md_p o a 1)) ∨ x = (md_p o e 0)) ∧ x ≠ (md_p o a 2)) ∨ x = (md_p o (e + 1) 0)) ∧ x ≠ (md_p o b 1)) ∨ x = (md_p o (e + 2) 0)) ∧ x ≠ (md_p o b 2)) ∨ x = (md_p o (e + 3) 0)) ∨ x = (md_p o e 1) ∨ x = (md_p o (e + 2) 1)) ∨ x = (md_p o e 2) ∨ x = (md_p o (e + 3) 1)) → (fun x => E x ∨ (o ≤ x ∧ (((x - o) / 3 < e ∧ rk ((x - o) / 3) ≠ -1) ∨ (e ≤ (x - o) / 3 ∧ (x - o) / 3 < e + 4)))) x := fun x z => z.elim (fun z => hD6 x z) (fun z => z.elim (fun z => z ▸ bN e 2 (by omega) (by omega) (by omega)) (fun z => z ▸ bN (e + 3) 1 (by omega) (by omega) (by omega)))
  have K8 : md_HR (fun x => ((((((((((((md_D o E (md_v e rk) x ∧ x ≠ (md_p o a 0) ∧ x ≠ (md_p o b 0)) ∧ x ≠ (md_p o a 1)) ∨ x = (md_p o e 0)) ∧ x ≠ (md_p o a 2)) ∨ x = (md_p o (e + 1) 0)) ∧ x ≠ (md_p o b 1)) ∨ x = (md_p o (e + 2) 0)) ∧ x ≠ (md_p o b 2)) ∨ x = (md_p o (e + 3) 0)) ∨ x = (md_p o e 1) ∨ x = (md_p o (e + 2) 1)) ∨ x = (md_p o e 2) ∨ x = (md_p o (e + 3) 1)) ∨ x = (md_p o (e + 1) 1) ∨ x = (md_p o (e + 2) 2))) (md_P o U g') (md_J (md_J (md_J (md_M (md_M (md_M (md_M (fz_F h (md_p o a 0) (md_p o b 0)) (md_p o a 1) (md_p o e 0)) (md_p o a 2) (md_p o (e + 1) 0)) (md_p o b 1) (md_p o (e + 2) 0)) (md_p o b 2) (md_p o (e + 3) 0)) (md_p o e 1) (md_p o (e + 2) 1)) (md_p o e 2) (md_p o (e + 3) 1)) (md_p o (e + 1) 1) (md_p o (e + 2) 2)) w8 ∧ fz_L w7 (12 * g b + 10) (12 * g a + 5) = 0 := by
    rw [hw8]
    exact md_HJ hB hD7 i7 G7 (s := (md_p o (e + 1) 1)) (t := (md_p o (e + 2) 2)) (fun z => (z.elim (fun z7 => (z7.elim (fun z6 => (z6.elim (fun z5 => (z5.1.elim (fun z4 => (z4.1.elim (fun z3 => (z3.1.elim (fun z2 => (nDn (e + 1) 1 (by omega) (by omega) z2.1.1)) (fun z2 => (pn (e + 1) 1 e 0 (by omega) (by omega) (by omega) z2)))) (fun z3 => (ps (e + 1) 1 0 (by omega) (by omega) (by omega) z3)))) (fun z4 => (pn (e + 1) 1 (e + 2) 0 (by omega) (by omega) (by omega) z4)))) (fun z5 => (pn (e + 1) 1 (e + 3) 0 (by omega) (by omega) (by omega) z5)))) (fun z6 => z6.elim (fun y6 => (pn (e + 1) 1 e 1 (by omega) (by omega) (by omega) y6)) (fun y6 => (pn (e + 1) 1 (e + 2) 1 (by omega) (by omega) (by omega) y6))))) (fun z7 => z7.elim (fun y7 => (pn (e + 1) 1 e 2 (by omega) (by omega) (by omega) y7)) (fun y7 => (pn (e + 1) 1 (e + 3) 1 (by omega) (by omega) (by omega) y7))))) (fun z => (z.elim (fun z7 => (z7.elim (fun z6 => (z6.elim (fun z5 => (z5.1.elim (fun z4 => (z4.1.elim (fun z3 => (z3.1.elim (fun z2 => (nDn (e + 2) 2 (by omega) (by omega) z2.1.1)) (fun z2 => (pn (e + 2) 2 e 0 (by omega) (by omega) (by omega) z2)))) (fun z3 => (pn (e + 2) 2 (e + 1) 0 (by omega) (by omega) (by omega) z3)))) (fun z4 => (ps (e + 2) 2 0 (by omega) (by omega) (by omega) z4)))) (fun z5 => (pn (e + 2) 2 (e + 3) 0 (by omega) (by omega) (by omega) z5)))) (fun z6 => z6.elim (fun y6 => (pn (e + 2) 2 e 1 (by omega) (by omega) (by omega) y6)) (fun y6 => (ps (e + 2) 2 1 (by omega) (by omega) (by omega) y6))))) (fun z7 => z7.elim (fun y7 => (pn (e + 2) 2 e 2 (by omega) (by omega) (by omega) y7)) (fun y7 => (pn (e + 2) 2 (e + 3) 1 (by omega) (by omega) (by omega) y7))))) (bN (e + 1) 1 (by omega) (by omega) (by omega)) (bN (e + 2) 2 (by omega) (by omega) (by omega)) (pn (e + 1) 1 (e + 2) 2 (by omega) (by omega) (by omega)) PE1_1 PE2_2 f7_E1_1 (by omega) f7_E2_2 (by omega)
  have G8 := K8.1
  have hD8 : ∀ x, ((((((((((((md_D o E (md_v e rk) x ∧ x ≠ (md_p o a 0) ∧ x ≠ (md_p o b 0)) ∧ x ≠ (md_p o a 1)) ∨ x = (md_p o e 0)) ∧ x ≠ (md_p o a 2)) ∨ x = (md_p o (e + 1) 0)) ∧ x ≠ (md_p o b 1)) ∨ x = (md_p o (e + 2) 0)) ∧ x ≠ (md_p o b 2)) ∨ x = (md_p o (e + 3) 0)) ∨ x = (md_p o e 1) ∨ x = (md_p o (e + 2) 1)) ∨ x = (md_p o e 2) ∨ x = (md_p o (e + 3) 1)) ∨ x = (md_p o (e + 1) 1) ∨ x = (md_p o (e + 2) 2)) → (fun x => E x ∨ (o ≤ x ∧ (((x - o) / 3 < e ∧ rk ((x - o) / 3) ≠ -1) ∨ (e ≤ (x - o) / 3 ∧ (x - o) / 3 < e + 4)))) x := fun x z => z.elim (fun z => hD7 x z) (fun z => z.elim (fun z => z ▸ bN (e + 1) 1 (by omega) (by omega) (by omega)) (fun z => z ▸ bN (e + 2) 2 (by omega) (by omega) (by omega)))
  have K9 : md_HR (fun x => (((((((((((((md_D o E (md_v e rk) x ∧ x ≠ (md_p o a 0) ∧ x ≠ (md_p o b 0)) ∧ x ≠ (md_p o a 1)) ∨ x = (md_p o e 0)) ∧ x ≠ (md_p o a 2)) ∨ x = (md_p o (e + 1) 0)) ∧ x ≠ (md_p o b 1)) ∨ x = (md_p o (e + 2) 0)) ∧ x ≠ (md_p o b 2)) ∨ x = (md_p o (e + 3) 0)) ∨ x = (md_p o e 1) ∨ x = (md_p o (e + 2) 1)) ∨ x = (md_p o e 2) ∨ x = (md_p o (e + 3) 1)) ∨ x = (md_p o (e + 1) 1) ∨ x = (md_p o (e + 2) 2)) ∨ x = (md_p o (e + 1) 2) ∨ x = (md_p o (e + 3) 2))) (md_P o U g') (md_J (md_J (md_J (md_J (md_M (md_M (md_M (md_M (fz_F h (md_p o a 0) (md_p o b 0)) (md_p o a 1) (md_p o e 0)) (md_p o a 2) (md_p o (e + 1) 0)) (md_p o b 1) (md_p o (e + 2) 0)) (md_p o b 2) (md_p o (e + 3) 0)) (md_p o e 1) (md_p o (e + 2) 1)) (md_p o e 2) (md_p o (e + 3) 1)) (md_p o (e + 1) 1) (md_p o (e + 2) 2)) (md_p o (e + 1) 2) (md_p o (e + 3) 2)) w9 ∧ fz_L w8 (12 * g b + 11) (12 * g a + 11) = 0 := by
    rw [hw9]
    exact md_HJ hB hD8 i8 G8 (s := (md_p o (e + 1) 2)) (t := (md_p o (e + 3) 2)) (fun z => (z.elim (fun z8 => (z8.elim (fun z7 => (z7.elim (fun z6 => (z6.elim (fun z5 => (z5.1.elim (fun z4 => (z4.1.elim (fun z3 => (z3.1.elim (fun z2 => (nDn (e + 1) 2 (by omega) (by omega) z2.1.1)) (fun z2 => (pn (e + 1) 2 e 0 (by omega) (by omega) (by omega) z2)))) (fun z3 => (ps (e + 1) 2 0 (by omega) (by omega) (by omega) z3)))) (fun z4 => (pn (e + 1) 2 (e + 2) 0 (by omega) (by omega) (by omega) z4)))) (fun z5 => (pn (e + 1) 2 (e + 3) 0 (by omega) (by omega) (by omega) z5)))) (fun z6 => z6.elim (fun y6 => (pn (e + 1) 2 e 1 (by omega) (by omega) (by omega) y6)) (fun y6 => (pn (e + 1) 2 (e + 2) 1 (by omega) (by omega) (by omega) y6))))) (fun z7 => z7.elim (fun y7 => (pn (e + 1) 2 e 2 (by omega) (by omega) (by omega) y7)) (fun y7 => (pn (e + 1) 2 (e + 3) 1 (by omega) (by omega) (by omega) y7))))) (fun z8 => z8.elim (fun y8 => (ps (e + 1) 2 1 (by omega) (by omega) (by omega) y8)) (fun y8 => (pn (e + 1) 2 (e + 2) 2 (by omega) (by omega) (by omega) y8))))) (fun z => (z.elim (fun z8 => (z8.elim (fun z7 => (z7.elim (fun z6 => (z6.elim (fun z5 => (z5.1.elim (fun z4 => (z4.1.elim (fun z3 => (z3.1.elim (fun z2 => (nDn (e + 3) 2 (by omega) (by omega) z2.1.1)) (fun z2 => (pn (e + 3) 2 e 0 (by omega) (by omega) (by omega) z2)))) (fun z3 => (pn (e + 3) 2 (e + 1) 0 (by omega) (by omega) (by omega) z3)))) (fun z4 => (pn (e + 3) 2 (e + 2) 0 (by omega) (by omega) (by omega) z4)))) (fun z5 => (ps (e + 3) 2 0 (by omega) (by omega) (by omega) z5)))) (fun z6 => z6.elim (fun y6 => (pn (e + 3) 2 e 1 (by omega) (by omega) (by omega) y6)) (fun y6 => (pn (e + 3) 2 (e + 2) 1 (by omega) (by omega) (by omega) y6))))) (fun z7 => z7.elim (fun y7 => (pn (e + 3) 2 e 2 (by omega) (by omega) (by omega) y7)) (fun y7 => (ps (e + 3) 2 1 (by omega) (by omega) (by omega) y7))))) (fun z8 => z8.elim (fun y8 => (pn (e + 3) 2 (e + 1) 1 (by omega) (by omega) (by omega) y8)) (fun y8 => (pn (e + 3) 2 (e + 2) 2 (by omega) (by omega) (by omega) y8))))) (bN (e + 1) 2 (by omega) (by omega) (by omega)) (bN (e + 3) 2 (by omega) (by omega) (by omega)) (pn (e + 1) 2 (e + 3) 2 (by omega) (by omega) (by omega)) PE1_2 PE3_2 f8_E1_2 (by omega) f8_E3_2 (by omega)
  have G9 := K9.1
  have est : fz_st N (g a) (g b) = (fz_kd N.1 (g a) (g b), w9, N.2.2 + fz_L N.2.1 (6 * g a + 0) (6 * g b + 0) + fz_L w1 (6 * g a + 1) (12 * g b + 3) + fz_L w2 (6 * g a + 2) (12 * g b + 9) + fz_L w3 (6 * g b + 1) (12 * g a + 3) + fz_L w4 (6 * g b + 2) (12 * g a + 9) + fz_L w5 (12 * g b + 4) (12 * g a + 4) + fz_L w6 (12 * g b + 5) (12 * g a + 10) + fz_L w7 (12 * g b + 10) (12 * g a + 5) + fz_L w8 (12 * g b + 11) (12 * g a + 11)) := by
    have z1 : fz_F N.2.1 (6 * g a) (6 * g b) = w1 := hw1.symm
    unfold fz_st fz_ops fz_tl
    rw [A, B, k0, k1, if_neg (by decide), if_neg (by decide), if_neg (by decide), if_pos rfl]
    refine Prod.ext rfl ?_
    show fz_run (fz_cp (g a) (g b)) (fz_F N.2.1 (6 * g a) (6 * g b), N.2.2 + fz_L N.2.1 (6 * g a + 0) (6 * g b + 0)) = _
    unfold fz_cp
    rw [z1, fz_rc, ← hw2, fz_rc, ← hw3, fz_rc, ← hw4, fz_rc, ← hw5, fz_rc, ← hw6, fz_rc, ← hw7, fz_rc, ← hw8, fz_rc, ← hw9]
    rfl
  have eL : fz_L h (md_p o a 0) (md_p o b 0) = 1 := by unfold fz_L; rw [if_pos hh]
  have ka : (upd (upd (upd (upd (upd (upd rk a (-1)) b (-1)) e 1) (e + 1) 1) (e + 2) 0) (e + 3) 0) a = -1 := by rw [pk_un (by omega), pk_un (by omega), pk_un (by omega), pk_un (by omega), pk_un hab, pk_us]
  have kb : (upd (upd (upd (upd (upd (upd rk a (-1)) b (-1)) e 1) (e + 1) 1) (e + 2) 0) (e + 3) 0) b = -1 := by rw [pk_un (by omega), pk_un (by omega), pk_un (by omega), pk_un (by omega), pk_us]
  have kk : ∀ c, c < e → c ≠ a → c ≠ b → (upd (upd (upd (upd (upd (upd rk a (-1)) b (-1)) e 1) (e + 1) 1) (e + 2) 0) (e + 3) 0) c = rk c := fun c hc n1 n2 => by rw [pk_un (by omega), pk_un (by omega), pk_un (by omega), pk_un (by omega), pk_un n2, pk_un n1]
  have ke0 : (upd (upd (upd (upd (upd (upd rk a (-1)) b (-1)) e 1) (e + 1) 1) (e + 2) 0) (e + 3) 0) e = 1 := by rw [pk_un (by omega), pk_un (by omega), pk_un (by omega), pk_us]
  have ke1 : (upd (upd (upd (upd (upd (upd rk a (-1)) b (-1)) e 1) (e + 1) 1) (e + 2) 0) (e + 3) 0) (e + 1) = 1 := by rw [pk_un (by omega), pk_un (by omega), pk_us]
  have ke2 : (upd (upd (upd (upd (upd (upd rk a (-1)) b (-1)) e 1) (e + 1) 1) (e + 2) 0) (e + 3) 0) (e + 2) = 0 := by rw [pk_un (by omega), pk_us]
  have ke3 : (upd (upd (upd (upd (upd (upd rk a (-1)) b (-1)) e 1) (e + 1) 1) (e + 2) 0) (e + 3) 0) (e + 3) = 0 := pk_us
  have ck1 : fz_ck (rk a) (rk b) = 0 := by rw [k0, k1]; rfl
  have ck2 : fz_ck (rk b) (rk a) = 1 := by rw [k0, k1]; rfl
  refine ⟨g', ?_, by rw [est, K1.2, K2.2, K3.2, K4.2, K5.2, K6.2, K7.2, K8.2, K9.2, eL]⟩
  refine md_mk R ha hb la lb AC (by omega) hg ka kb kk (fun c h1 h2 => ⟨?_, fun c' h3 h4 z => nin c h1 h2 c' h3 h4 z⟩) (fun n hn _ => ?_) (fun n hn _ => ?_) ?_
  · rcases new c h1 h2 with rfl | rfl | rfl | rfl
    · exact Or.inr ⟨by omega, ke0.trans ck2.symm⟩
    · exact Or.inr ⟨by omega, ke1.trans ck2.symm⟩
    · exact Or.inl ⟨by omega, ke2.trans ck1.symm⟩
    · exact Or.inl ⟨by omega, ke3.trans ck1.symm⟩
  · by_cases c : n = 2 * g a
    · exact ⟨e + 2, by omega, by omega, by omega⟩
    · exact ⟨e + 3, by omega, by omega, by omega⟩
  · by_cases c : n = 2 * g b
    · exact ⟨e, by omega, by omega, by omega⟩
    · exact ⟨e + 1, by omega, by omega, by omega⟩
  · rw [est]
    refine md_HC G9 (md_DE (v := md_v e rk) ?_ ?_ ?_) (fun _ _ => rfl)
    · intro x ex
      have na : ∀ s, s < 3 → x ≠ md_p o a s := fun s hs z => nEa s hs (z ▸ ex)
      have nb : ∀ s, s < 3 → x ≠ md_p o b s := fun s hs z => nEb s hs (z ▸ ex)
      exact Or.inl (Or.inl (Or.inl (Or.inl (Or.inl ⟨Or.inl ⟨Or.inl ⟨Or.inl ⟨⟨Or.inl ex, na 0 (by omega), nb 0 (by omega)⟩, na 1 (by omega)⟩, na 2 (by omega)⟩, nb 1 (by omega)⟩, nb 2 (by omega)⟩))))
    · intro x ex ox z
      have no : ∀ c s, x ≠ md_p o c s := fun c s z => ox (z ▸ md_po)
      rcases z with z | z | z
      · rcases z with z | z | z
        · rcases z with z | z | z
          · rcases z with z | z | z
            · rcases z with ⟨z, _⟩ | z
              · rcases z with ⟨z, _⟩ | z
                · rcases z with ⟨z, _⟩ | z
                  · rcases z with ⟨z, _⟩ | z
                    · exact z.1.elim ex (fun z => ox z.1)
                    · exact no _ _ z
                  · exact no _ _ z
                · exact no _ _ z
              · exact no _ _ z
            · exact no _ _ z
            · exact no _ _ z
          · exact no _ _ z
          · exact no _ _ z
        · exact no _ _ z
        · exact no _ _ z
      · exact no _ _ z
      · exact no _ _ z
    · intro c s hs ex
      rw [md_Di ex hs]
      show _ ↔ s < md_v (e + 4) _ c
      simp only [Ne, md_pe hs (show 0 < 3 by omega), md_pe hs (show 1 < 3 by omega), md_pe hs (show 2 < 3 by omega)]
      have s3 : s = 0 ∨ s = 1 ∨ s = 2 := by omega
      by_cases c1 : c = a
      · have v' : md_v (e + 4) (upd (upd (upd (upd (upd (upd rk a (-1)) b (-1)) e 1) (e + 1) 1) (e + 2) 0) (e + 3) 0) c = 0 := by rw [c1]; unfold md_v; rw [if_pos (by omega), ka]; rfl
        have q0 : ¬ c = b := by omega
        have q1 : ¬ c = e := by omega
        have q2 : ¬ c = e + 1 := by omega
        have q3 : ¬ c = e + 2 := by omega
        have q4 : ¬ c = e + 3 := by omega
        rw [v', c1, va]
        rw [c1] at q0 q1 q2 q3 q4
        simp only [q0, q1, q2, q3, q4, false_and, not_false_eq_true, and_true, or_false, true_and]
        omega
      · by_cases c2 : c = b
        · have v' : md_v (e + 4) (upd (upd (upd (upd (upd (upd rk a (-1)) b (-1)) e 1) (e + 1) 1) (e + 2) 0) (e + 3) 0) c = 0 := by rw [c2]; unfold md_v; rw [if_pos (by omega), kb]; rfl
          have q1 : ¬ c = e := by omega
          have q2 : ¬ c = e + 1 := by omega
          have q3 : ¬ c = e + 2 := by omega
          have q4 : ¬ c = e + 3 := by omega
          rw [v', c2, vb]
          rw [c2] at c1 q1 q2 q3 q4
          simp only [c1, q1, q2, q3, q4, false_and, not_false_eq_true, and_true, or_false, true_and]
          omega
        · by_cases c3 : e ≤ c ∧ c < e + 4
          · have v0 := vn c c3.1
            rw [v0]
            simp only [c1, c2, false_and, not_false_eq_true, and_true, Nat.not_lt_zero, false_or]
            rcases new c c3.1 c3.2 with q | q | q | q
            · have v' : md_v (e + 4) (upd (upd (upd (upd (upd (upd rk a (-1)) b (-1)) e 1) (e + 1) 1) (e + 2) 0) (e + 3) 0) c = 3 := by rw [q]; unfold md_v; rw [if_pos (by omega), ke0]; rfl
              rw [v', q]; omega
            · have v' : md_v (e + 4) (upd (upd (upd (upd (upd (upd rk a (-1)) b (-1)) e 1) (e + 1) 1) (e + 2) 0) (e + 3) 0) c = 3 := by rw [q]; unfold md_v; rw [if_pos (by omega), ke1]; rfl
              rw [v', q]; omega
            · have v' : md_v (e + 4) (upd (upd (upd (upd (upd (upd rk a (-1)) b (-1)) e 1) (e + 1) 1) (e + 2) 0) (e + 3) 0) c = 3 := by rw [q]; unfold md_v; rw [if_pos (by omega), ke2]; rfl
              rw [v', q]; omega
            · have v' : md_v (e + 4) (upd (upd (upd (upd (upd (upd rk a (-1)) b (-1)) e 1) (e + 1) 1) (e + 2) 0) (e + 3) 0) c = 3 := by rw [q]; unfold md_v; rw [if_pos (by omega), ke3]; rfl
              rw [v', q]; omega
          · have v' : md_v (e + 4) (upd (upd (upd (upd (upd (upd rk a (-1)) b (-1)) e 1) (e + 1) 1) (e + 2) 0) (e + 3) 0) c = md_v e rk c := by
              unfold md_v
              by_cases c5 : c < e
              · rw [if_pos (by omega), if_pos c5, kk c c5 c1 c2]
              · rw [if_neg (by omega), if_neg c5]
            have q1 : ¬ c = e := by omega
            have q2 : ¬ c = e + 1 := by omega
            have q3 : ¬ c = e + 2 := by omega
            have q4 : ¬ c = e + 3 := by omega
            rw [v']
            simp only [c1, c2, q1, q2, q3, q4, false_and, not_false_eq_true, and_true, or_false]
