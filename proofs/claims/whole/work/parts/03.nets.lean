/-! nets over tree addresses, their steps, the diamond, one end for all paths -/
abbrev fz_N : Type := (Nat → Int32) × (Nat → Nat) × Nat
def fz_ck (a b : Int32) : Int32 := if a = b then -1 else if a = 2 then -1 else if b = 2 then 2 else a
def fz_er (p : Nat) : List (Nat × Nat) := [(6 * p + 1, 12 * p + 3), (6 * p + 2, 12 * p + 9)]
def fz_cp (c d : Nat) : List (Nat × Nat) := [(6 * c + 1, 12 * d + 3), (6 * c + 2, 12 * d + 9), (6 * d + 1, 12 * c + 3), (6 * d + 2, 12 * c + 9), (12 * d + 4, 12 * c + 4), (12 * d + 5, 12 * c + 10), (12 * d + 10, 12 * c + 5), (12 * d + 11, 12 * c + 11)]
def fz_sm (a b : Nat) : List (Nat × Nat) := [(6 * a + 1, 6 * b + 1), (6 * a + 2, 6 * b + 2)]
def fz_tl (a b : Nat) (x y : Int32) : List (Nat × Nat) :=
  if x = y then (if x = 2 then [] else fz_sm a b) else if x = 2 then fz_er b else if y = 2 then fz_er a else if x = 0 then fz_cp a b else fz_cp b a
def fz_ops (a b : Nat) (x y : Int32) : List (Nat × Nat) := (6 * a, 6 * b) :: fz_tl a b x y
def fz_kd (kd : Nat → Int32) (a b n : Nat) : Int32 :=
  if n = a ∨ n = b then -1 else if n / 2 = a then fz_ck (kd a) (kd b) else if n / 2 = b then fz_ck (kd b) (kd a) else kd n
def fz_st (N : fz_N) (a b : Nat) : fz_N := (fz_kd N.1 a b, fz_run (fz_ops a b (N.1 a) (N.1 b)) N.2)
def fz_ds (m n : Nat) : Prop := ∃ k : Nat, m / 2 ^ (k + 1) = n
theorem fz_pw (m k : Nat) : m / 2 ^ (k + 1) = m / 2 / 2 ^ k := by
  rw [Nat.pow_succ, Nat.mul_comm, ← Nat.div_div_eq_div_mul]
theorem fz_ds1 {m n : Nat} (h : m / 2 = n) : fz_ds m n := ⟨0, by simpa using h⟩
theorem fz_dsh {m n : Nat} (h : fz_ds m n) : m / 2 = n ∨ fz_ds (m / 2) n := by
  obtain ⟨k, hk⟩ := h
  rw [fz_pw] at hk
  cases k with
  | zero => left; simpa using hk
  | succ k => right; exact ⟨k, hk⟩
theorem fz_dsu {m n a : Nat} (h : fz_ds m n) (ha : n / 2 = a) : fz_ds m a := by
  obtain ⟨k, hk⟩ := h
  refine ⟨k + 1, ?_⟩
  rw [Nat.pow_succ, ← Nat.div_div_eq_div_mul, hk, ha]
theorem fz_dsl {m n : Nat} (h : fz_ds m n) (hn : 1 ≤ n) : n < m := by
  obtain ⟨k, hk⟩ := h
  rw [fz_pw] at hk
  have h1 : m / 2 / 2 ^ k ≤ m / 2 := Nat.div_le_self _ _
  omega
def fz_vg (w : Nat → Nat) (m : Nat) : Prop := ∀ i, i < 6 → w (6 * m + i) = 6 * m + (i + 3) % 6
def fz_k3 (k : Int32) : Prop := k = 0 ∨ k = 1 ∨ k = 2
def fz_ok (N : fz_N) : Prop := fz_I N.2.1 ∧ ∀ a, N.1 a ≠ -1 → 16 ≤ a ∧ fz_k3 (N.1 a) ∧ ∀ m, fz_ds m a → N.1 m = -1 ∧ fz_vg N.2.1 m
def fz_ac (N : fz_N) (a b : Nat) : Prop := N.1 a ≠ -1 ∧ N.1 b ≠ -1 ∧ a ≠ b ∧ N.2.1 (6 * a) = 6 * b
theorem fz_acs {N : fz_N} (h : fz_ok N) {a b : Nat} (H : fz_ac N a b) : fz_ac N b a := by
  refine ⟨H.2.1, H.1, fun e => H.2.2.1 e.symm, ?_⟩
  rw [← H.2.2.2]
  exact h.1 _
/-- a port of a step belongs to one of its two names or to their children -/
def fz_pt (a b p : Nat) : Prop := p / 6 = a ∨ p / 6 = b ∨ p / 12 = a ∨ p / 12 = b
theorem fz_ops_pt {a b : Nat} (hab : a ≠ b) (x y : Int32) : ∀ o, o ∈ fz_ops a b x y → o.1 ≠ o.2 ∧ fz_pt a b o.1 ∧ fz_pt a b o.2 := by
  intro o ho
  unfold fz_ops fz_tl at ho
  rw [List.mem_cons] at ho
  unfold fz_pt
  rcases ho with rfl | ho
  · dsimp only; omega
  · have H : o ∈ fz_sm a b ∨ o ∈ fz_er a ∨ o ∈ fz_er b ∨ o ∈ fz_cp a b ∨ o ∈ fz_cp b a := by
      revert ho
      repeat' split
      all_goals intro ho
      · exact absurd ho List.not_mem_nil
      · exact Or.inl ho
      · exact Or.inr (Or.inr (Or.inl ho))
      · exact Or.inr (Or.inl ho)
      · exact Or.inr (Or.inr (Or.inr (Or.inl ho)))
      · exact Or.inr (Or.inr (Or.inr (Or.inr ho)))
    rcases H with H | H | H | H | H
    · simp only [fz_sm, List.mem_cons, List.not_mem_nil, or_false] at H
      rcases H with rfl | rfl <;> dsimp only <;> omega
    · simp only [fz_er, List.mem_cons, List.not_mem_nil, or_false] at H
      rcases H with rfl | rfl <;> dsimp only <;> omega
    · simp only [fz_er, List.mem_cons, List.not_mem_nil, or_false] at H
      rcases H with rfl | rfl <;> dsimp only <;> omega
    · simp only [fz_cp, List.mem_cons, List.not_mem_nil, or_false] at H
      rcases H with rfl | rfl | rfl | rfl | rfl | rfl | rfl | rfl <;> dsimp only <;> omega
    · simp only [fz_cp, List.mem_cons, List.not_mem_nil, or_false] at H
      rcases H with rfl | rfl | rfl | rfl | rfl | rfl | rfl | rfl <;> dsimp only <;> omega
def fz_sep (a c : Nat) : Prop := a ≠ c ∧ a / 2 ≠ c ∧ c / 2 ≠ a
theorem fz_lsep {N : fz_N} (h : fz_ok N) {a c : Nat} (ha : N.1 a ≠ -1) (hc : N.1 c ≠ -1) (hac : a ≠ c) : fz_sep a c := by
  refine ⟨hac, fun e => ?_, fun e => ?_⟩
  · exact ha ((h.2 c hc).2.2 a (fz_ds1 e)).1
  · exact hc ((h.2 a ha).2.2 c (fz_ds1 e)).1
theorem fz_ptdj {a b c d p p' : Nat} (h1 : fz_sep a c) (h2 : fz_sep a d) (h3 : fz_sep b c) (h4 : fz_sep b d) (hp : fz_pt a b p) (hp' : fz_pt c d p') : p ≠ p' := by
  unfold fz_sep at h1 h2 h3 h4
  unfold fz_pt at hp hp'
  intro e
  subst e
  have e2 : p / 12 = p / 6 / 2 := by omega
  rw [e2] at hp hp'
  generalize p / 6 = n at hp hp'
  clear e2
  rcases hp with hp | hp | hp | hp <;> rcases hp' with hp' | hp' | hp' | hp' <;> omega
theorem fz_k3ck {x y : Int32} (hx : fz_k3 x) (h : fz_ck x y ≠ -1) : fz_k3 (fz_ck x y) := by
  unfold fz_ck at *
  split
  · rename_i e; rw [if_pos e] at h; exact absurd rfl h
  · rename_i e
    rw [if_neg e] at h
    split
    · rename_i e2; rw [if_pos e2] at h; exact absurd rfl h
    · split
      · exact Or.inr (Or.inr rfl)
      · exact hx
/-- a name apart from a step's names keeps its virgin ports -/
theorem fz_vgk {w : Nat → Nat} {L a b m : Nat} (hab : a ≠ b) (x y : Int32) (h : fz_vg w m) (h1 : m ≠ a) (h2 : m ≠ b) (h3 : m / 2 ≠ a) (h4 : m / 2 ≠ b) : fz_vg (fz_run (fz_ops a b x y) (w, L)).1 m := by
  intro i hi
  have e := h i hi
  have k := fz_keep (fz_ops a b x y) (w, L) (6 * m + i) (fun o ho => by
    have := fz_ops_pt hab x y o ho
    unfold fz_pt at this
    show (_ ∧ _) ∧ w (6 * m + i) ≠ _ ∧ w (6 * m + i) ≠ _
    rw [e]
    omega)
  rw [k]
  exact e
theorem fz_st_ok {N : fz_N} (h : fz_ok N) {a b : Nat} (H : fz_ac N a b) : fz_ok (fz_st N a b) := by
  obtain ⟨ha, hb, hab, hw⟩ := H
  refine ⟨fz_run_inv _ _ h.1 (fun o ho => (fz_ops_pt hab _ _ o ho).1), ?_⟩
  have A := h.2 a ha
  have B := h.2 b hb
  have key : ∀ m, N.1 m = -1 → fz_vg N.2.1 m → m / 2 ≠ a → m / 2 ≠ b → (fz_st N a b).1 m = -1 ∧ fz_vg (fz_st N a b).2.1 m := by
    intro m hm hv h3 h4
    refine ⟨?_, fz_vgk hab _ _ hv (fun e => ha (e ▸ hm)) (fun e => hb (e ▸ hm)) h3 h4⟩
    show fz_kd N.1 a b m = -1
    unfold fz_kd
    rw [if_neg h3, if_neg h4]
    split
    · rfl
    · exact hm
  -- a child of c (c, d the two names)
  have child : ∀ c d n, N.1 c ≠ -1 → N.1 d ≠ -1 → c ≠ d → (∀ m, m / 2 ≠ c → m / 2 ≠ d → m / 2 ≠ a ∧ m / 2 ≠ b) → n / 2 = c →
      16 ≤ n ∧ ∀ m, fz_ds m n → (fz_st N a b).1 m = -1 ∧ fz_vg (fz_st N a b).2.1 m := by
    intro c d n hc hd hcd hor hn
    have C := h.2 c hc
    have D := h.2 d hd
    refine ⟨by omega, fun m hm => ?_⟩
    have hm2 := fz_dsu hm hn
    have hml := fz_dsl hm (by omega)
    have old := C.2.2 m hm2
    have g := hor m (fun e => by
      rcases fz_dsh hm with e1 | e1
      · omega
      · have := fz_dsl e1 (by omega)
        omega) (fun e => by
      have q : fz_ds d n := by
        rcases fz_dsh hm with e1 | e1
        · exfalso
          have : n = d := by omega
          exact hd (this ▸ (C.2.2 n (fz_ds1 hn)).1)
        · exact e ▸ e1
      exact hd (C.2.2 d (fz_dsu q hn)).1)
    exact key m old.1 old.2 g.1 g.2
  intro n hn
  have hn' : fz_kd N.1 a b n ≠ -1 := hn
  have gn : fz_k3 (fz_kd N.1 a b n) ∧ (n / 2 = a ∨ n / 2 = b ∨ (N.1 n ≠ -1 ∧ n ≠ a ∧ n ≠ b)) := by
    revert hn'
    unfold fz_kd
    split
    · intro z; exact absurd rfl z
    · rename_i e0
      split
      · rename_i e
        exact fun z => ⟨fz_k3ck A.2.1 z, Or.inl e⟩
      · split
        · rename_i e
          exact fun z => ⟨fz_k3ck B.2.1 z, Or.inr (Or.inl e)⟩
        · exact fun z => ⟨(h.2 n z).2.1, Or.inr (Or.inr ⟨z, fun e => e0 (Or.inl e), fun e => e0 (Or.inr e)⟩)⟩
  obtain ⟨g1, g2⟩ := gn
  rcases g2 with g2 | g2 | ⟨g2, g3, g4⟩
  · have c := child a b n ha hb hab (fun m x y => ⟨x, y⟩) g2
    exact ⟨c.1, g1, c.2⟩
  · have c := child b a n hb ha (fun e => hab e.symm) (fun m x y => ⟨y, x⟩) g2
    exact ⟨c.1, g1, c.2⟩
  · have C := h.2 n g2
    refine ⟨C.1, g1, fun m hm => ?_⟩
    have old := C.2.2 m hm
    refine key m old.1 old.2 (fun e => ?_) (fun e => ?_)
    · rcases fz_dsh hm with e1 | e1
      · exact g3 (e1.symm.trans e)
      · exact ha (C.2.2 a (e ▸ e1)).1
    · rcases fz_dsh hm with e1 | e1
      · exact g4 (e1.symm.trans e)
      · exact hb (C.2.2 b (e ▸ e1)).1
theorem fz_st_sym {N : fz_N} (h : fz_ok N) {a b : Nat} (H : fz_ac N a b) : fz_st N a b = fz_st N b a := by
  obtain ⟨ha, hb, hab, hw⟩ := H
  have e1 : fz_kd N.1 a b = fz_kd N.1 b a := by
    funext n
    unfold fz_kd
    by_cases c1 : n = a <;> by_cases c2 : n = b <;> by_cases c3 : n / 2 = a <;> by_cases c4 : n / 2 = b <;> simp only [c1, c2, c3, c4, if_true, if_false, or_true, true_or, or_self]
    all_goals first | rfl | (exfalso; omega) | rw [if_neg hab] | rw [if_neg (fun z => hab z.symm)]
  have e2 : fz_run (fz_ops a b (N.1 a) (N.1 b)) N.2 = fz_run (fz_ops b a (N.1 b) (N.1 a)) N.2 := by
    have i0 : fz_I N.2.1 := h.1
    unfold fz_ops
    rw [fz_sw i0 (by omega)]
    have i1 : fz_I (fz_F N.2.1 (6 * b) (6 * a)) := fz_inv i0 (by omega)
    show fz_run (fz_tl a b (N.1 a) (N.1 b)) (fz_F N.2.1 (6 * b) (6 * a), N.2.2 + fz_L N.2.1 (6 * b) (6 * a)) = fz_run (fz_tl b a (N.1 b) (N.1 a)) (fz_F N.2.1 (6 * b) (6 * a), N.2.2 + fz_L N.2.1 (6 * b) (6 * a))
    generalize (N.2.2 + fz_L N.2.1 (6 * b) (6 * a)) = L1
    revert i1
    generalize fz_F N.2.1 (6 * b) (6 * a) = w1
    intro i1
    have A := (h.2 a ha).2.1
    have B := (h.2 b hb).2.1
    by_cases c : N.1 a = N.1 b
    · unfold fz_tl
      rw [if_pos c, if_pos c.symm, ← c]
      split
      · rfl
      · unfold fz_sm
        rw [fz_sw i1 (by omega)]
        show fz_run [(6 * a + 2, 6 * b + 2)] (fz_F w1 (6 * b + 1) (6 * a + 1), L1 + fz_L w1 (6 * b + 1) (6 * a + 1)) = fz_run [(6 * b + 2, 6 * a + 2)] (fz_F w1 (6 * b + 1) (6 * a + 1), L1 + fz_L w1 (6 * b + 1) (6 * a + 1))
        exact fz_sw (fz_inv i1 (by omega)) (by omega) []
    · have q : fz_tl a b (N.1 a) (N.1 b) = fz_tl b a (N.1 b) (N.1 a) := by
        unfold fz_tl
        have c' : ¬ N.1 b = N.1 a := fun e => c e.symm
        rw [if_neg c, if_neg c']
        clear c'
        rcases A with A | A | A <;> rcases B with B | B | B <;> rw [A, B] at c ⊢ <;> first | rfl | exact absurd rfl c
      rw [q]
  unfold fz_st
  rw [e1, e2]
theorem fz_dia {N : fz_N} (h : fz_ok N) {a b c d : Nat} (H : fz_ac N a b) (K : fz_ac N c d) (hca : c ≠ a) (hcb : c ≠ b) :
    fz_ac (fz_st N a b) c d ∧ fz_st (fz_st N a b) c d = fz_st (fz_st N c d) a b := by
  obtain ⟨ha, hb, hab, hw⟩ := H
  obtain ⟨hc, hd, hcd, hv⟩ := K
  have hwb : N.2.1 (6 * b) = 6 * a := by rw [← hw]; exact h.1 _
  have hvd : N.2.1 (6 * d) = 6 * c := by rw [← hv]; exact h.1 _
  have hda : d ≠ a := fun e => by rw [e, hw] at hvd; omega
  have hdb : d ≠ b := fun e => by rw [e, hwb] at hvd; omega
  have s1 := fz_lsep h ha hc (fun e => hca e.symm)
  have s2 := fz_lsep h ha hd (fun e => hda e.symm)
  have s3 := fz_lsep h hb hc (fun e => hcb e.symm)
  have s4 := fz_lsep h hb hd (fun e => hdb e.symm)
  have kdc : (fz_st N a b).1 c = N.1 c := by
    show fz_kd N.1 a b c = _
    unfold fz_kd
    rw [if_neg (fun e => e.elim hca hcb), if_neg s1.2.2, if_neg s3.2.2]
  have kdd : (fz_st N a b).1 d = N.1 d := by
    show fz_kd N.1 a b d = _
    unfold fz_kd
    rw [if_neg (fun e => e.elim hda hdb), if_neg s2.2.2, if_neg s4.2.2]
  have kda : (fz_st N c d).1 a = N.1 a := by
    show fz_kd N.1 c d a = _
    unfold fz_kd
    rw [if_neg (fun e => e.elim s1.1 s2.1), if_neg s1.2.1, if_neg s2.2.1]
  have kdb : (fz_st N c d).1 b = N.1 b := by
    show fz_kd N.1 c d b = _
    unfold fz_kd
    rw [if_neg (fun e => e.elim s3.1 s4.1), if_neg s3.2.1, if_neg s4.2.1]
  have keep : (fz_st N a b).2.1 (6 * c) = 6 * d := by
    rw [← hv]
    refine fz_keep _ N.2 (6 * c) (fun o ho => ?_)
    have := fz_ops_pt hab (N.1 a) (N.1 b) o ho
    rw [hv]
    unfold fz_pt at this
    unfold fz_sep at s1 s2 s3 s4
    omega
  refine ⟨⟨by rw [kdc]; exact hc, by rw [kdd]; exact hd, hcd, keep⟩, ?_⟩
  have e1 : fz_kd (fz_st N a b).1 c d = fz_kd (fz_st N c d).1 a b := by
    funext n
    unfold fz_sep at s1 s2 s3 s4
    show fz_kd (fz_st N a b).1 c d n = fz_kd (fz_st N c d).1 a b n
    have l : fz_kd (fz_st N a b).1 c d n = if n = c ∨ n = d then -1 else if n / 2 = c then fz_ck (N.1 c) (N.1 d) else if n / 2 = d then fz_ck (N.1 d) (N.1 c) else fz_kd N.1 a b n := by
      rw [← kdc, ← kdd]; rfl
    have r : fz_kd (fz_st N c d).1 a b n = if n = a ∨ n = b then -1 else if n / 2 = a then fz_ck (N.1 a) (N.1 b) else if n / 2 = b then fz_ck (N.1 b) (N.1 a) else fz_kd N.1 c d n := by
      rw [← kda, ← kdb]; rfl
    rw [l, r]
    unfold fz_kd
    by_cases c1 : n = a
    · subst c1
      rw [if_neg (by omega), if_neg (by omega), if_neg (by omega), if_pos (Or.inl rfl), if_pos (Or.inl rfl)]
    by_cases c2 : n = b
    · subst c2
      rw [if_neg (by omega), if_neg (by omega), if_neg (by omega), if_pos (Or.inr rfl), if_pos (Or.inr rfl)]
    by_cases c3 : n = c
    · subst c3
      rw [if_pos (Or.inl rfl), if_neg (by omega), if_neg (by omega), if_neg (by omega), if_pos (Or.inl rfl)]
    by_cases c4 : n = d
    · subst c4
      rw [if_pos (Or.inr rfl), if_neg (by omega), if_neg (by omega), if_neg (by omega), if_pos (Or.inr rfl)]
    have n1 : ¬ (n = a ∨ n = b) := by omega
    have n2 : ¬ (n = c ∨ n = d) := by omega
    simp only [if_neg n1, if_neg n2]
    by_cases c5 : n / 2 = a
    · rw [if_neg (show ¬ n / 2 = c by omega), if_neg (show ¬ n / 2 = d by omega), if_pos c5, if_pos c5]
    by_cases c6 : n / 2 = b
    · rw [if_neg (show ¬ n / 2 = c by omega), if_neg (show ¬ n / 2 = d by omega), if_neg c5, if_pos c6, if_neg c5, if_pos c6]
    simp only [if_neg c5, if_neg c6]
  have e2 : fz_run (fz_ops c d (N.1 c) (N.1 d)) (fz_run (fz_ops a b (N.1 a) (N.1 b)) N.2) = fz_run (fz_ops a b (N.1 a) (N.1 b)) (fz_run (fz_ops c d (N.1 c) (N.1 d)) N.2) := by
    refine (fz_run2 _ _ N.2 h.1 (fun o ho => (fz_ops_pt hab _ _ o ho).1) (fun o ho => (fz_ops_pt hcd _ _ o ho).1) (fun o ho o' ho' => ?_)).symm
    have u := fz_ops_pt hab _ _ o ho
    have u' := fz_ops_pt hcd _ _ o' ho'
    exact ⟨fz_ptdj s1 s2 s3 s4 u.2.1 u'.2.1, fz_ptdj s1 s2 s3 s4 u.2.1 u'.2.2, fz_ptdj s1 s2 s3 s4 u.2.2 u'.2.1, fz_ptdj s1 s2 s3 s4 u.2.2 u'.2.2⟩
  show (fz_kd (fz_st N a b).1 c d, fz_run (fz_ops c d ((fz_st N a b).1 c) ((fz_st N a b).1 d)) (fz_st N a b).2) = (fz_kd (fz_st N c d).1 a b, fz_run (fz_ops a b ((fz_st N c d).1 a) ((fz_st N c d).1 b)) (fz_st N c d).2)
  rw [kdc, kdd, kda, kdb, e1]
  exact congrArg _ e2
def fz_pa : Nat → fz_N → fz_N → Prop
  | 0, N, M => N = M
  | n + 1, N, M => ∃ a b, fz_ac N a b ∧ fz_pa n (fz_st N a b) M
def fz_no (M : fz_N) : Prop := ∀ a b, ¬ fz_ac M a b
theorem fz_snoc : ∀ (n : Nat) (N M : fz_N) (a b : Nat), fz_pa n N M → fz_ac M a b → fz_pa (n + 1) N (fz_st M a b)
  | 0, N, M, a, b, h, H => by
    cases h
    exact ⟨a, b, H, rfl⟩
  | n + 1, N, M, a, b, h, H => by
    obtain ⟨c, d, K, h2⟩ := h
    exact ⟨c, d, K, fz_snoc n _ M a b h2 H⟩
theorem fz_pa_ok : ∀ (n : Nat) (N M : fz_N), fz_ok N → fz_pa n N M → fz_ok M
  | 0, _, _, h, e => e ▸ h
  | n + 1, _, M, h, e => by
    obtain ⟨a, b, H, r⟩ := e
    exact fz_pa_ok n _ M (fz_st_ok h H) r
/-- two faced pairs are one pair, or apart -/
theorem fz_two {N : fz_N} (h : fz_ok N) {a b c d : Nat} (H : fz_ac N a b) (K : fz_ac N c d) : fz_st N a b = fz_st N c d ∨ (c ≠ a ∧ c ≠ b) := by
  by_cases e : c = a
  · subst e
    have : b = d := by have := H.2.2.2.symm.trans K.2.2.2; omega
    subst this
    exact Or.inl rfl
  · by_cases e2 : c = b
    · subst e2
      have : a = d := by have := (fz_acs h H).2.2.2.symm.trans K.2.2.2; omega
      subst this
      exact Or.inl (fz_st_sym h H)
    · exact Or.inr ⟨e, e2⟩
theorem fz_A : ∀ (n : Nat) (N M : fz_N) (c d : Nat), fz_ok N → fz_pa (n + 1) N M → fz_no M → fz_ac N c d → fz_pa n (fz_st N c d) M
  | 0, N, M, c, d, h, ⟨a, b, H, e⟩, hn, K => by
    rcases fz_two h H K with q | ⟨q1, q2⟩
    · exact q ▸ e
    · have e' : fz_st N a b = M := e
      exact absurd (e' ▸ (fz_dia h H K q1 q2).1) (hn c d)
  | n + 1, N, M, c, d, h, ⟨a, b, H, e⟩, hn, K => by
    rcases fz_two h H K with q | ⟨q1, q2⟩
    · exact q ▸ e
    · have D := fz_dia h H K q1 q2
      have r := fz_A n (fz_st N a b) M c d (fz_st_ok h H) e hn D.1
      rw [D.2] at r
      refine ⟨a, b, ?_, r⟩
      refine (fz_dia h K H ?_ ?_).1
      · exact fun z => q1 z.symm
      · intro z
        apply q2
        have := K.2.2.2
        rw [← z] at this
        have k2 := (fz_acs h H).2.2.2
        have k3 : N.2.1 (N.2.1 (6 * c)) = N.2.1 (6 * a) := by rw [this]
        rw [h.1, H.2.2.2] at k3
        omega
theorem fz_B : ∀ (m n : Nat) (N M M' : fz_N), fz_ok N → fz_pa n N M → fz_no M → fz_pa m N M' → m ≤ n ∧ fz_pa (n - m) M' M
  | 0, n, N, M, M', h, hn, _, e => by
    cases e
    exact ⟨Nat.zero_le _, hn⟩
  | m + 1, 0, N, M, M', h, hn, no, ⟨a, b, H, _⟩ => by
    cases hn
    exact absurd H (no a b)
  | m + 1, n + 1, N, M, M', h, hn, no, ⟨a, b, H, r⟩ => by
    have q := fz_B m n _ M M' (fz_st_ok h H) (fz_A n N M a b h hn no H) no r
    exact ⟨Nat.succ_le_succ q.1, by rw [Nat.succ_sub_succ]; exact q.2⟩
/-- two runs that go on until rest or to the same last step -/
theorem fz_fin {T n m : Nat} {N M M' : fz_N} (h : fz_ok N) (hn : fz_pa n N M) (hm : fz_pa m N M') (n1 : n ≤ T) (m1 : m ≤ T) (n2 : n = T ∨ fz_no M) (m2 : m = T ∨ fz_no M') :
    (fz_no M ↔ fz_no M') ∧ (fz_no M → n = m ∧ M = M') := by
  have key : ∀ (n m : Nat) (M M' : fz_N), fz_pa n N M → fz_pa m N M' → n ≤ T → m ≤ T → (m = T ∨ fz_no M') → fz_no M → n = m ∧ M = M' := by
    intro n m M M' hn hm n1 m1 m2 no
    obtain ⟨q1, q2⟩ := fz_B m n N M M' h hn no hm
    have z : n - m = 0 := by
      rcases m2 with m2 | m2
      · omega
      · cases e : n - m with
        | zero => rfl
        | succ k =>
          rw [e] at q2
          obtain ⟨a, b, H, _⟩ := q2
          exact absurd H (m2 a b)
    rw [z] at q2
    exact ⟨by omega, q2.symm⟩
  refine ⟨⟨fun no => ?_, fun no => ?_⟩, fun no => key n m M M' hn hm n1 m1 m2 no⟩
  · exact (key n m M M' hn hm n1 m1 m2 no).2 ▸ no
  · exact (key m n M' M hm hn m1 n1 n2 no).2 ▸ no
