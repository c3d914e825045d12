section
theorem pk_us {f : Nat → Int32} {k : Nat} {x : Int32} : upd f k x k = x := if_pos rfl
theorem pk_un {f : Nat → Int32} {k j : Nat} {x : Int32} (h : j ≠ k) : upd f k x j = f j := if_neg h
theorem pk_sub {a b : Nat} (h : b ≤ a) : nI a - nI b = nI (a - b) := by
  obtain ⟨c, rfl⟩ : ∃ c, a = c + b := ⟨a - b, by omega⟩
  rw [← nI_add, Int32.add_sub_cancel, Nat.add_sub_cancel]
theorem pk_m1 (n : Nat) : nI (n + 1) + (-1) = nI n := by
  rw [← nI_1, Int32.add_assoc, show (1 : Int32) + (-1) = 0 from rfl, Int32.add_zero]
theorem pk_mul (a b : Nat) : nI a * nI b = nI (a * b) := (Int32.ofNat_mul a b).symm
theorem pk_div {a d : Nat} (ha : a < 2 ^ 31) (h0 : 0 < d) (hd : d < 2 ^ 31) : nI a / nI d = nI (a / d) := by
  apply Int32.toInt_inj.mp
  rw [lg_idiv_nonneg (by rw [nI_toInt ha]; omega) (by rw [nI_toInt hd]; omega), nI_toInt ha, nI_toInt hd, nI_toInt (Nat.lt_of_le_of_lt (Nat.div_le_self a d) ha)]
  first | rfl | exact (Int.natCast_ediv _ _).symm
theorem pk_rem {a d : Nat} (ha : a < 2 ^ 31) (h0 : 0 < d) (hd : d < 2 ^ 31) : nI a - nI a / nI d * nI d = nI (a % d) := by
  rw [pk_div ha h0 hd, pk_mul, pk_sub (Nat.div_mul_le_self a d)]
  exact congrArg nI (by have := Nat.div_add_mod' a d; omega)
theorem pk_sub_toInt {a b : Nat} (ha : a < 2 ^ 30) (hb : b < 2 ^ 30) : (nI a - nI b).toInt = (a : Int) - b := by
  rw [Int32.toInt_sub, nI_toInt (by omega), nI_toInt (by omega)]
  exact Int.bmod_eq_of_le (by omega) (by omega)
theorem pk_sneg {a b : Nat} (hb : b < 2 ^ 30) (h : a < b) : nI a - nI b < 0 := by
  rw [Int32.lt_iff_toInt_lt, pk_sub_toInt (by omega) hb, show (0 : Int32).toInt = 0 from by decide]
  omega
theorem pk_ix (x : Int32) {n : Nat} (hn : n < 2 ^ 31) : x < 0 ∨ nI n ≤ x ∨ ∃ j : Nat, j < n ∧ x = nI j := by
  by_cases h : x < 0
  · exact Or.inl h
  · obtain ⟨j, hj, rfl⟩ := nI_of h
    by_cases h2 : j < n
    · exact Or.inr (Or.inr ⟨j, h2, rfl⟩)
    · exact Or.inr (Or.inl (nI_le (by omega) hj))
theorem pk_le {x y : Int32} {A B : Prop} (a b : Nat) (f : a ≤ b → A) (g : b < a → B) (hx : x = nI a := by rfl) (hy : y = nI b := by rfl) (ha : a < 2 ^ 31 := by omega) (hb : b < 2 ^ 31 := by omega) : (x ≤ y → A) ∧ (¬ x ≤ y → B) := by
  subst hx hy
  rw [nI_leI ha hb]
  exact ⟨f, fun z => g (by omega)⟩
theorem pk_lt {x y : Int32} {A B : Prop} (a b : Nat) (f : a < b → A) (g : b ≤ a → B) (hx : x = nI a := by rfl) (hy : y = nI b := by rfl) (ha : a < 2 ^ 31 := by omega) (hb : b < 2 ^ 31 := by omega) : (x < y → A) ∧ (¬ x < y → B) := by
  subst hx hy
  rw [nI_ltI ha hb]
  exact ⟨f, fun z => g (by omega)⟩
theorem pk_eq {x y : Int32} {A B : Prop} (a b : Nat) (f : a = b → A) (g : a ≠ b → B) (hx : x = nI a := by rfl) (hy : y = nI b := by rfl) (ha : a < 2 ^ 31 := by omega) (hb : b < 2 ^ 31 := by omega) : (x = y → A) ∧ (¬ x = y → B) := by
  subst hx hy
  rw [nI_eq ha hb]
  exact ⟨f, g⟩
theorem pk_in {x : Int32} (n N : Nat) (h : n < N) (hx : x = nI n := by rfl) (hN : N < 2 ^ 31 := by omega) : vp_in x N := by
  subst hx
  exact vp_in_nI h hN
theorem pk_cl {x : Int32} (n : Nat) (hx : x = nI n := by rfl) (h : n < 2 ^ 31 := by omega) : x.toNatClampNeg = n := by
  subst hx
  exact nI_clamp h
theorem pk_loop {σ : Type} (W : Nat → Nat → σ → Prop) (I : Nat → σ → Prop) (e i0 : Nat) (s : σ) (hi : i0 ≤ e) (h0 : I i0 s) (hx : ∀ n s, I e s → W (n + 1) e s)
    (hs : ∀ n i s, i < e → I i s → (∀ s', I (i + 1) s' → W n (i + 1) s') → W (n + 1) i s) : ∃ n, W n i0 s :=
  ⟨e + 1, loop_i W I e hx hs (e + 1) i0 s hi (by omega) h0⟩
end
section
/-! fuses over an involution on ports (a fixpoint is a port without a wire) -/
def fz_F (w : Nat → Nat) (p q x : Nat) : Nat :=
  if x = p then p else if x = q then q
  else if w x = p then (if w q = q then x else w q)
  else if w x = q then (if w p = p then x else w p)
  else w x
def fz_L (w : Nat → Nat) (p q : Nat) : Nat := if w p = q then 1 else 0
def fz_I (w : Nat → Nat) : Prop := ∀ x, w (w x) = x
theorem fz_inv {w : Nat → Nat} (hw : fz_I w) {p q : Nat} (hpq : p ≠ q) : fz_I (fz_F w p q) := by
  intro x
  have hx := hw x
  have hp := hw p
  have hq := hw q
  unfold fz_F
  grind
theorem fz_symm {w : Nat → Nat} (hw : fz_I w) {p q : Nat} (hpq : p ≠ q) (x : Nat) : fz_F w p q x = fz_F w q p x := by
  have hx := hw x
  have hp := hw p
  have hq := hw q
  unfold fz_F
  grind
theorem fz_Lsymm {w : Nat → Nat} (hw : fz_I w) (p q : Nat) : fz_L w p q = fz_L w q p := by
  have hp := hw p
  have hq := hw q
  unfold fz_L
  grind
theorem fz_comm {w : Nat → Nat} (hw : fz_I w) {p q r s : Nat} (h1 : p ≠ q) (h2 : p ≠ r) (h3 : p ≠ s) (h4 : q ≠ r) (h5 : q ≠ s) (h6 : r ≠ s) (x : Nat) :
    fz_F (fz_F w p q) r s x = fz_F (fz_F w r s) p q x := by
  have hx := hw x
  have hp := hw p
  have hq := hw q
  have hr := hw r
  have hs := hw s
  unfold fz_F
  grind (splits := 40)
theorem fz_commL {w : Nat → Nat} (hw : fz_I w) {p q r s : Nat} (h1 : p ≠ q) (h2 : p ≠ r) (h3 : p ≠ s) (h4 : q ≠ r) (h5 : q ≠ s) (h6 : r ≠ s) :
    fz_L w p q + fz_L (fz_F w p q) r s = fz_L w r s + fz_L (fz_F w r s) p q := by
  have hp := hw p
  have hq := hw q
  have hr := hw r
  have hs := hw s
  unfold fz_L fz_F
  grind
def fz_run : List (Nat × Nat) → (Nat → Nat) × Nat → (Nat → Nat) × Nat
  | [], s => s
  | o :: l, s => fz_run l (fz_F s.1 o.1 o.2, s.2 + fz_L s.1 o.1 o.2)
def fz_dj (a b : Nat × Nat) : Prop := a.1 ≠ b.1 ∧ a.1 ≠ b.2 ∧ a.2 ≠ b.1 ∧ a.2 ≠ b.2
theorem fz_run_inv : ∀ (l : List (Nat × Nat)) (s : (Nat → Nat) × Nat), fz_I s.1 → (∀ o, o ∈ l → o.1 ≠ o.2) → fz_I (fz_run l s).1
  | [], _, h, _ => h
  | o :: l, s, h, hl => fz_run_inv l _ (fz_inv h (hl o List.mem_cons_self)) (fun o' h' => hl o' (List.mem_cons_of_mem _ h'))
theorem fz_op2 {s : (Nat → Nat) × Nat} (h : fz_I s.1) {a b : Nat × Nat} (ha : a.1 ≠ a.2) (hb : b.1 ≠ b.2) (hd : fz_dj a b) (l : List (Nat × Nat)) :
    fz_run (a :: b :: l) s = fz_run (b :: a :: l) s := by
  obtain ⟨d1, d2, d3, d4⟩ := hd
  show fz_run l (fz_F (fz_F s.1 a.1 a.2) b.1 b.2, s.2 + fz_L s.1 a.1 a.2 + fz_L (fz_F s.1 a.1 a.2) b.1 b.2) = fz_run l (fz_F (fz_F s.1 b.1 b.2) a.1 a.2, s.2 + fz_L s.1 b.1 b.2 + fz_L (fz_F s.1 b.1 b.2) a.1 a.2)
  have e1 : fz_F (fz_F s.1 a.1 a.2) b.1 b.2 = fz_F (fz_F s.1 b.1 b.2) a.1 a.2 := funext (fz_comm h ha d1 d2 d3 d4 hb)
  have e2 := fz_commL h ha d1 d2 d3 d4 hb
  rw [e1, Nat.add_assoc, e2, ← Nat.add_assoc]
theorem fz_run1 : ∀ (l : List (Nat × Nat)) (s : (Nat → Nat) × Nat) (o : Nat × Nat), fz_I s.1 → o.1 ≠ o.2 → (∀ o', o' ∈ l → o'.1 ≠ o'.2 ∧ fz_dj o o') →
    fz_run (o :: l) s = fz_run [o] (fz_run l s)
  | [], _, _, _, _, _ => rfl
  | b :: l, s, o, h, ho, hl => by
    have hb := hl b List.mem_cons_self
    rw [fz_op2 h ho hb.1 hb.2 l]
    exact fz_run1 l _ o (fz_inv h hb.1) ho (fun o' h' => hl o' (List.mem_cons_of_mem _ h'))
theorem fz_run2 : ∀ (k l : List (Nat × Nat)) (s : (Nat → Nat) × Nat), fz_I s.1 → (∀ o, o ∈ k → o.1 ≠ o.2) → (∀ o, o ∈ l → o.1 ≠ o.2) → (∀ o, o ∈ k → ∀ o', o' ∈ l → fz_dj o o') →
    fz_run k (fz_run l s) = fz_run l (fz_run k s)
  | [], _, _, _, _, _, _ => rfl
  | a :: k, l, s, h, hk, hl, hd => by
    have e := fz_run1 l s a h (hk a List.mem_cons_self) (fun o' h' => ⟨hl o' h', hd a List.mem_cons_self o' h'⟩)
    show fz_run k (fz_run [a] (fz_run l s)) = _
    rw [← e]
    exact fz_run2 k l (fz_run [a] s) (fz_inv h (hk a List.mem_cons_self)) (fun o h' => hk o (List.mem_cons_of_mem _ h')) hl (fun o h' => hd o (List.mem_cons_of_mem _ h'))
theorem fz_keep : ∀ (l : List (Nat × Nat)) (s : (Nat → Nat) × Nat) (x : Nat), (∀ o, o ∈ l → (x ≠ o.1 ∧ x ≠ o.2) ∧ s.1 x ≠ o.1 ∧ s.1 x ≠ o.2) → (fz_run l s).1 x = s.1 x
  | [], _, _, _ => rfl
  | o :: l, s, x, h => by
    obtain ⟨⟨h1, h2⟩, h3, h4⟩ := h o List.mem_cons_self
    have e : fz_F s.1 o.1 o.2 x = s.1 x := by
      unfold fz_F
      rw [if_neg h1, if_neg h2, if_neg h3, if_neg h4]
    have r := fz_keep l (fz_F s.1 o.1 o.2, s.2 + fz_L s.1 o.1 o.2) x (fun o' h' => by
      have g := h o' (List.mem_cons_of_mem _ h')
      refine ⟨g.1, ?_⟩
      show fz_F s.1 o.1 o.2 x ≠ o'.1 ∧ fz_F s.1 o.1 o.2 x ≠ o'.2
      rw [e]
      exact g.2)
    exact r.trans e
theorem fz_sw {s : (Nat → Nat) × Nat} (h : fz_I s.1) {p q : Nat} (hpq : p ≠ q) (l : List (Nat × Nat)) : fz_run ((p, q) :: l) s = fz_run ((q, p) :: l) s := by
  show fz_run l (fz_F s.1 p q, s.2 + fz_L s.1 p q) = fz_run l (fz_F s.1 q p, s.2 + fz_L s.1 q p)
  rw [funext (fz_symm h hpq), fz_Lsymm h p q]
end
section
/-! nets over tree addresses, their steps, the diamond, one end for all paths -/
abbrev fz_N : Type := (Nat → Int32) × (Nat → Nat) × Nat
def fz_ck (a b : Int32) : Int32 := if a = b then -1 else if a = 2 then -1 else if b = 2 then 2 else a
def fz_er (p : Nat) : List (Nat × Nat) := [(6 * p + 1, 12 * p + 3), (6 * p + 2, 12 * p + 9)]
def fz_cp (c d : Nat) : List (Nat × Nat) := [(6 * c + 1, 12 * d + 3), (6 * c + 2, 12 * d + 9), (6 * d + 1, 12 * c + 3), (6 * d + 2, 12 * c + 9), (12 * d + 4, 12 * c + 4), (12 * d + 5, 12 * c + 10), (12 * d + 10, 12 * c + 5), (12 * d + 11, 12 * c + 11)]
def fz_sm (a b : Nat) : List (Nat × Nat) := [(6 * a + 1, 6 * b + 1), (6 * a + 2, 6 * b + 2)]
def fz_tl (a b : Nat) (x y : Int32) : List (Nat × Nat) :=
  if x = y then (if x = 2 then [] else fz_sm a b) else if x = 2 then fz_er b else if y = 2 then fz_er a else if x = 0 then fz_cp a b else fz_cp b a
def fz_ops (a b : Nat) (x y : Int32) : List (Nat × Nat) := (6 * a, 6 * b) :: fz_tl a b x y
def fz_kd (kd : Nat → Int32) (a b n : Nat) : Int32 :=
  if n = a ∨ n = b then -1 else if n / 2 = a then fz_ck (kd a) (kd b) else if n / 2 = b then fz_ck (kd b) (kd a) else kd n
def fz_st (N : fz_N) (a b : Nat) : fz_N := (fz_kd N.1 a b, fz_run (fz_ops a b (N.1 a) (N.1 b)) N.2)
def fz_ds (m n : Nat) : Prop := ∃ k : Nat, m / 2 ^ (k + 1) = n
theorem fz_pw (m k : Nat) : m / 2 ^ (k + 1) = m / 2 / 2 ^ k := by
  rw [Nat.pow_succ, Nat.mul_comm, ← Nat.div_div_eq_div_mul]
theorem fz_ds1 {m n : Nat} (h : m / 2 = n) : fz_ds m n := ⟨0, by simpa using h⟩
theorem fz_dsh {m n : Nat} (h : fz_ds m n) : m / 2 = n ∨ fz_ds (m / 2) n := by
  obtain ⟨k, hk⟩ := h
  rw [fz_pw] at hk
  cases k with
  | zero => left; simpa using hk
  | succ k => right; exact ⟨k, hk⟩
theorem fz_dsu {m n a : Nat} (h : fz_ds m n) (ha : n / 2 = a) : fz_ds m a := by
  obtain ⟨k, hk⟩ := h
  refine ⟨k + 1, ?_⟩
  rw [Nat.pow_succ, ← Nat.div_div_eq_div_mul, hk, ha]
theorem fz_dsl {m n : Nat} (h : fz_ds m n) (hn : 1 ≤ n) : n < m := by
  obtain ⟨k, hk⟩ := h
  rw [fz_pw] at hk
  have h1 : m / 2 / 2 ^ k ≤ m / 2 := Nat.div_le_self _ _
  omega
def fz_vg (w : Nat → Nat) (m : Nat) : Prop := ∀ i, i < 6 → w (6 * m + i) = 6 * m + (i + 3) % 6
def fz_k3 (k : Int32) : Prop := k = 0 ∨ k = 1 ∨ k = 2
def fz_ok (N : fz_N) : Prop := fz_I N.2.1 ∧ ∀ a, N.1 a ≠ -1 → 16 ≤ a ∧ fz_k3 (N.1 a) ∧ ∀ m, fz_ds m a → N.1 m = -1 ∧ fz_vg N.2.1 m
def fz_ac (N : fz_N) (a b : Nat) : Prop := N.1 a ≠ -1 ∧ N.1 b ≠ -1 ∧ a ≠ b ∧ N.2.1 (6 * a) = 6 * b
theorem fz_acs {N : fz_N} (h : fz_ok N) {a b : Nat} (H : fz_ac N a b) : fz_ac N b a := by
  refine ⟨H.2.1, H.1, fun e => H.2.2.1 e.symm, ?_⟩
  rw [← H.2.2.2]
  exact h.1 _
/-- a port of a step belongs to one of its two names or to their children -/
def fz_pt (a b p : Nat) : Prop := p / 6 = a ∨ p / 6 = b ∨ p / 12 = a ∨ p / 12 = b
theorem fz_ops_pt {a b : Nat} (hab : a ≠ b) (x y : Int32) : ∀ o, o ∈ fz_ops a b x y → o.1 ≠ o.2 ∧ fz_pt a b o.1 ∧ fz_pt a b o.2 := by
  intro o ho
  unfold fz_ops fz_tl at ho
  rw [List.mem_cons] at ho
  unfold fz_pt
  rcases ho with rfl | ho
  · dsimp only; omega
  · have H : o ∈ fz_sm a b ∨ o ∈ fz_er a ∨ o ∈ fz_er b ∨ o ∈ fz_cp a b ∨ o ∈ fz_cp b a := by
      revert ho
      repeat' split
      all_goals intro ho
      · exact absurd ho List.not_mem_nil
      · exact Or.inl ho
      · exact Or.inr (Or.inr (Or.inl ho))
      · exact Or.inr (Or.inl ho)
      · exact Or.inr (Or.inr (Or.inr (Or.inl ho)))
      · exact Or.inr (Or.inr (Or.inr (Or.inr ho)))
    rcases H with H | H | H | H | H
    · simp only [fz_sm, List.mem_cons, List.not_mem_nil, or_false] at H
      rcases H with rfl | rfl <;> dsimp only <;> omega
    · simp only [fz_er, List.mem_cons, List.not_mem_nil, or_false] at H
      rcases H with rfl | rfl <;> dsimp only <;> omega
    · simp only [fz_er, List.mem_cons, List.not_mem_nil, or_false] at H
      rcases H with rfl | rfl <;> dsimp only <;> omega
    · simp only [fz_cp, List.mem_cons, List.not_mem_nil, or_false] at H
      rcases H with rfl | rfl | rfl | rfl | rfl | rfl | rfl | rfl <;> dsimp only <;> omega
    · simp only [fz_cp, List.mem_cons, List.not_mem_nil, or_false] at H
      rcases H with rfl | rfl | rfl | rfl | rfl | rfl | rfl | rfl <;> dsimp only <;> omega
def fz_sep (a c : Nat) : Prop := a ≠ c ∧ a / 2 ≠ c ∧ c / 2 ≠ a
theorem fz_lsep {N : fz_N} (h : fz_ok N) {a c : Nat} (ha : N.1 a ≠ -1) (hc : N.1 c ≠ -1) (hac : a ≠ c) : fz_sep a c := by
  refine ⟨hac, fun e => ?_, fun e => ?_⟩
  · exact ha ((h.2 c hc).2.2 a (fz_ds1 e)).1
  · exact hc ((h.2 a ha).2.2 c (fz_ds1 e)).1
theorem fz_ptdj {a b c d p p' : Nat} (h1 : fz_sep a c) (h2 : fz_sep a d) (h3 : fz_sep b c) (h4 : fz_sep b d) (hp : fz_pt a b p) (hp' : fz_pt c d p') : p ≠ p' := by
  unfold fz_sep at h1 h2 h3 h4
  unfold fz_pt at hp hp'
  intro e
  subst e
  have e2 : p / 12 = p / 6 / 2 := by omega
  rw [e2] at hp hp'
  generalize p / 6 = n at hp hp'
  clear e2
  rcases hp with hp | hp | hp | hp <;> rcases hp' with hp' | hp' | hp' | hp' <;> omega
theorem fz_k3ck {x y : Int32} (hx : fz_k3 x) (h : fz_ck x y ≠ -1) : fz_k3 (fz_ck x y) := by
  unfold fz_ck at *
  split
  · rename_i e; rw [if_pos e] at h; exact absurd rfl h
  · rename_i e
    rw [if_neg e] at h
    split
    · rename_i e2; rw [if_pos e2] at h; exact absurd rfl h
    · split
      · exact Or.inr (Or.inr rfl)
      · exact hx
/-- a name apart from a step's names keeps its virgin ports -/
theorem fz_vgk {w : Nat → Nat} {L a b m : Nat} (hab : a ≠ b) (x y : Int32) (h : fz_vg w m) (h1 : m ≠ a) (h2 : m ≠ b) (h3 : m / 2 ≠ a) (h4 : m / 2 ≠ b) : fz_vg (fz_run (fz_ops a b x y) (w, L)).1 m := by
  intro i hi
  have e := h i hi
  have k := fz_keep (fz_ops a b x y) (w, L) (6 * m + i) (fun o ho => by
    have := fz_ops_pt hab x y o ho
    unfold fz_pt at this
    show (_ ∧ _) ∧ w (6 * m + i) ≠ _ ∧ w (6 * m + i) ≠ _
    rw [e]
    omega)
  rw [k]
  exact e
theorem fz_st_ok {N : fz_N} (h : fz_ok N) {a b : Nat} (H : fz_ac N a b) : fz_ok (fz_st N a b) := by
  obtain ⟨ha, hb, hab, hw⟩ := H
  refine ⟨fz_run_inv _ _ h.1 (fun o ho => (fz_ops_pt hab _ _ o ho).1), ?_⟩
  have A := h.2 a ha
  have B := h.2 b hb
  have key : ∀ m, N.1 m = -1 → fz_vg N.2.1 m → m / 2 ≠ a → m / 2 ≠ b → (fz_st N a b).1 m = -1 ∧ fz_vg (fz_st N a b).2.1 m := by
    intro m hm hv h3 h4
    refine ⟨?_, fz_vgk hab _ _ hv (fun e => ha (e ▸ hm)) (fun e => hb (e ▸ hm)) h3 h4⟩
    show fz_kd N.1 a b m = -1
    unfold fz_kd
    rw [if_neg h3, if_neg h4]
    split
    · rfl
    · exact hm
  -- a child of c (c, d the two names)
  have child : ∀ c d n, N.1 c ≠ -1 → N.1 d ≠ -1 → c ≠ d → (∀ m, m / 2 ≠ c → m / 2 ≠ d → m / 2 ≠ a ∧ m / 2 ≠ b) → n / 2 = c →
      16 ≤ n ∧ ∀ m, fz_ds m n → (fz_st N a b).1 m = -1 ∧ fz_vg (fz_st N a b).2.1 m := by
    intro c d n hc hd hcd hor hn
    have C := h.2 c hc
    have D := h.2 d hd
    refine ⟨by omega, fun m hm => ?_⟩
    have hm2 := fz_dsu hm hn
    have hml := fz_dsl hm (by omega)
    have old := C.2.2 m hm2
    have g := hor m (fun e => by
      rcases fz_dsh hm with e1 | e1
      · omega
      · have := fz_dsl e1 (by omega)
        omega) (fun e => by
      have q : fz_ds d n := by
        rcases fz_dsh hm with e1 | e1
        · exfalso
          have : n = d := by omega
          exact hd (this ▸ (C.2.2 n (fz_ds1 hn)).1)
        · exact e ▸ e1
      exact hd (C.2.2 d (fz_dsu q hn)).1)
    exact key m old.1 old.2 g.1 g.2
  intro n hn
  have hn' : fz_kd N.1 a b n ≠ -1 := hn
  have gn : fz_k3 (fz_kd N.1 a b n) ∧ (n / 2 = a ∨ n / 2 = b ∨ (N.1 n ≠ -1 ∧ n ≠ a ∧ n ≠ b)) := by
    revert hn'
    unfold fz_kd
    split
    · intro z; exact absurd rfl z
    · rename_i e0
      split
      · rename_i e
        exact fun z => ⟨fz_k3ck A.2.1 z, Or.inl e⟩
      · split
        · rename_i e
          exact fun z => ⟨fz_k3ck B.2.1 z, Or.inr (Or.inl e)⟩
        · exact fun z => ⟨(h.2 n z).2.1, Or.inr (Or.inr ⟨z, fun e => e0 (Or.inl e), fun e => e0 (Or.inr e)⟩)⟩
  obtain ⟨g1, g2⟩ := gn
  rcases g2 with g2 | g2 | ⟨g2, g3, g4⟩
  · have c := child a b n ha hb hab (fun m x y => ⟨x, y⟩) g2
    exact ⟨c.1, g1, c.2⟩
  · have c := child b a n hb ha (fun e => hab e.symm) (fun m x y => ⟨y, x⟩) g2
    exact ⟨c.1, g1, c.2⟩
  · have C := h.2 n g2
    refine ⟨C.1, g1, fun m hm => ?_⟩
    have old := C.2.2 m hm
    refine key m old.1 old.2 (fun e => ?_) (fun e => ?_)
    · rcases fz_dsh hm with e1 | e1
      · exact g3 (e1.symm.trans e)
      · exact ha (C.2.2 a (e ▸ e1)).1
    · rcases fz_dsh hm with e1 | e1
      · exact g4 (e1.symm.trans e)
      · exact hb (C.2.2 b (e ▸ e1)).1
theorem fz_st_sym {N : fz_N} (h : fz_ok N) {a b : Nat} (H : fz_ac N a b) : fz_st N a b = fz_st N b a := by
  obtain ⟨ha, hb, hab, hw⟩ := H
  have e1 : fz_kd N.1 a b = fz_kd N.1 b a := by
    funext n
    unfold fz_kd
    by_cases c1 : n = a <;> by_cases c2 : n = b <;> by_cases c3 : n / 2 = a <;> by_cases c4 : n / 2 = b <;> simp only [c1, c2, c3, c4, if_true, if_false, or_true, true_or, or_self]
    all_goals first | rfl | (exfalso; omega) | rw [if_neg hab] | rw [if_neg (fun z => hab z.symm)]
  have e2 : fz_run (fz_ops a b (N.1 a) (N.1 b)) N.2 = fz_run (fz_ops b a (N.1 b) (N.1 a)) N.2 := by
    have i0 : fz_I N.2.1 := h.1
    unfold fz_ops
    rw [fz_sw i0 (by omega)]
    have i1 : fz_I (fz_F N.2.1 (6 * b) (6 * a)) := fz_inv i0 (by omega)
    show fz_run (fz_tl a b (N.1 a) (N.1 b)) (fz_F N.2.1 (6 * b) (6 * a), N.2.2 + fz_L N.2.1 (6 * b) (6 * a)) = fz_run (fz_tl b a (N.1 b) (N.1 a)) (fz_F N.2.1 (6 * b) (6 * a), N.2.2 + fz_L N.2.1 (6 * b) (6 * a))
    generalize (N.2.2 + fz_L N.2.1 (6 * b) (6 * a)) = L1
    revert i1
    generalize fz_F N.2.1 (6 * b) (6 * a) = w1
    intro i1
    have A := (h.2 a ha).2.1
    have B := (h.2 b hb).2.1
    by_cases c : N.1 a = N.1 b
    · unfold fz_tl
      rw [if_pos c, if_pos c.symm, ← c]
      split
      · rfl
      · unfold fz_sm
        rw [fz_sw i1 (by omega)]
        show fz_run [(6 * a + 2, 6 * b + 2)] (fz_F w1 (6 * b + 1) (6 * a + 1), L1 + fz_L w1 (6 * b + 1) (6 * a + 1)) = fz_run [(6 * b + 2, 6 * a + 2)] (fz_F w1 (6 * b + 1) (6 * a + 1), L1 + fz_L w1 (6 * b + 1) (6 * a + 1))
        exact fz_sw (fz_inv i1 (by omega)) (by omega) []
    · have q : fz_tl a b (N.1 a) (N.1 b) = fz_tl b a (N.1 b) (N.1 a) := by
        unfold fz_tl
        have c' : ¬ N.1 b = N.1 a := fun e => c e.symm
        rw [if_neg c, if_neg c']
        clear c'
        rcases A with A | A | A <;> rcases B with B | B | B <;> rw [A, B] at c ⊢ <;> first | rfl | exact absurd rfl c
      rw [q]
  unfold fz_st
  rw [e1, e2]
theorem fz_dia {N : fz_N} (h : fz_ok N) {a b c d : Nat} (H : fz_ac N a b) (K : fz_ac N c d) (hca : c ≠ a) (hcb : c ≠ b) :
    fz_ac (fz_st N a b) c d ∧ fz_st (fz_st N a b) c d = fz_st (fz_st N c d) a b := by
  obtain ⟨ha, hb, hab, hw⟩ := H
  obtain ⟨hc, hd, hcd, hv⟩ := K
  have hwb : N.2.1 (6 * b) = 6 * a := by rw [← hw]; exact h.1 _
  have hvd : N.2.1 (6 * d) = 6 * c := by rw [← hv]; exact h.1 _
  have hda : d ≠ a := fun e => by rw [e, hw] at hvd; omega
  have hdb : d ≠ b := fun e => by rw [e, hwb] at hvd; omega
  have s1 := fz_lsep h ha hc (fun e => hca e.symm)
  have s2 := fz_lsep h ha hd (fun e => hda e.symm)
  have s3 := fz_lsep h hb hc (fun e => hcb e.symm)
  have s4 := fz_lsep h hb hd (fun e => hdb e.symm)
  have kdc : (fz_st N a b).1 c = N.1 c := by
    show fz_kd N.1 a b c = _
    unfold fz_kd
    rw [if_neg (fun e => e.elim hca hcb), if_neg s1.2.2, if_neg s3.2.2]
  have kdd : (fz_st N a b).1 d = N.1 d := by
    show fz_kd N.1 a b d = _
    unfold fz_kd
    rw [if_neg (fun e => e.elim hda hdb), if_neg s2.2.2, if_neg s4.2.2]
  have kda : (fz_st N c d).1 a = N.1 a := by
    show fz_kd N.1 c d a = _
    unfold fz_kd
    rw [if_neg (fun e => e.elim s1.1 s2.1), if_neg s1.2.1, if_neg s2.2.1]
  have kdb : (fz_st N c d).1 b = N.1 b := by
    show fz_kd N.1 c d b = _
    unfold fz_kd
    rw [if_neg (fun e => e.elim s3.1 s4.1), if_neg s3.2.1, if_neg s4.2.1]
  have keep : (fz_st N a b).2.1 (6 * c) = 6 * d := by
    rw [← hv]
    refine fz_keep _ N.2 (6 * c) (fun o ho => ?_)
    have := fz_ops_pt hab (N.1 a) (N.1 b) o ho
    rw [hv]
    unfold fz_pt at this
    unfold fz_sep at s1 s2 s3 s4
    omega
  refine ⟨⟨by rw [kdc]; exact hc, by rw [kdd]; exact hd, hcd, keep⟩, ?_⟩
  have e1 : fz_kd (fz_st N a b).1 c d = fz_kd (fz_st N c d).1 a b := by
    funext n
    unfold fz_sep at s1 s2 s3 s4
    show fz_kd (fz_st N a b).1 c d n = fz_kd (fz_st N c d).1 a b n
    have l : fz_kd (fz_st N a b).1 c d n = if n = c ∨ n = d then -1 else if n / 2 = c then fz_ck (N.1 c) (N.1 d) else if n / 2 = d then fz_ck (N.1 d) (N.1 c) else fz_kd N.1 a b n := by
      rw [← kdc, ← kdd]; rfl
    have r : fz_kd (fz_st N c d).1 a b n = if n = a ∨ n = b then -1 else if n / 2 = a then fz_ck (N.1 a) (N.1 b) else if n / 2 = b then fz_ck (N.1 b) (N.1 a) else fz_kd N.1 c d n := by
      rw [← kda, ← kdb]; rfl
    rw [l, r]
    unfold fz_kd
    by_cases c1 : n = a
    · subst c1
      rw [if_neg (by omega), if_neg (by omega), if_neg (by omega), if_pos (Or.inl rfl), if_pos (Or.inl rfl)]
    by_cases c2 : n = b
    · subst c2
      rw [if_neg (by omega), if_neg (by omega), if_neg (by omega), if_pos (Or.inr rfl), if_pos (Or.inr rfl)]
    by_cases c3 : n = c
    · subst c3
      rw [if_pos (Or.inl rfl), if_neg (by omega), if_neg (by omega), if_neg (by omega), if_pos (Or.inl rfl)]
    by_cases c4 : n = d
    · subst c4
      rw [if_pos (Or.inr rfl), if_neg (by omega), if_neg (by omega), if_neg (by omega), if_pos (Or.inr rfl)]
    have n1 : ¬ (n = a ∨ n = b) := by omega
    have n2 : ¬ (n = c ∨ n = d) := by omega
    simp only [if_neg n1, if_neg n2]
    by_cases c5 : n / 2 = a
    · rw [if_neg (show ¬ n / 2 = c by omega), if_neg (show ¬ n / 2 = d by omega), if_pos c5, if_pos c5]
    by_cases c6 : n / 2 = b
    · rw [if_neg (show ¬ n / 2 = c by omega), if_neg (show ¬ n / 2 = d by omega), if_neg c5, if_pos c6, if_neg c5, if_pos c6]
    simp only [if_neg c5, if_neg c6]
  have e2 : fz_run (fz_ops c d (N.1 c) (N.1 d)) (fz_run (fz_ops a b (N.1 a) (N.1 b)) N.2) = fz_run (fz_ops a b (N.1 a) (N.1 b)) (fz_run (fz_ops c d (N.1 c) (N.1 d)) N.2) := by
    refine (fz_run2 _ _ N.2 h.1 (fun o ho => (fz_ops_pt hab _ _ o ho).1) (fun o ho => (fz_ops_pt hcd _ _ o ho).1) (fun o ho o' ho' => ?_)).symm
    have u := fz_ops_pt hab _ _ o ho
    have u' := fz_ops_pt hcd _ _ o' ho'
    exact ⟨fz_ptdj s1 s2 s3 s4 u.2.1 u'.2.1, fz_ptdj s1 s2 s3 s4 u.2.1 u'.2.2, fz_ptdj s1 s2 s3 s4 u.2.2 u'.2.1, fz_ptdj s1 s2 s3 s4 u.2.2 u'.2.2⟩
  show (fz_kd (fz_st N a b).1 c d, fz_run (fz_ops c d ((fz_st N a b).1 c) ((fz_st N a b).1 d)) (fz_st N a b).2) = (fz_kd (fz_st N c d).1 a b, fz_run (fz_ops a b ((fz_st N c d).1 a) ((fz_st N c d).1 b)) (fz_st N c d).2)
  rw [kdc, kdd, kda, kdb, e1]
  exact congrArg _ e2
def fz_pa : Nat → fz_N → fz_N → Prop
  | 0, N, M => N = M
  | n + 1, N, M => ∃ a b, fz_ac N a b ∧ fz_pa n (fz_st N a b) M
def fz_no (M : fz_N) : Prop := ∀ a b, ¬ fz_ac M a b
theorem fz_snoc : ∀ (n : Nat) (N M : fz_N) (a b : Nat), fz_pa n N M → fz_ac M a b → fz_pa (n + 1) N (fz_st M a b)
  | 0, N, M, a, b, h, H => by
    cases h
    exact ⟨a, b, H, rfl⟩
  | n + 1, N, M, a, b, h, H => by
    obtain ⟨c, d, K, h2⟩ := h
    exact ⟨c, d, K, fz_snoc n _ M a b h2 H⟩
theorem fz_pa_ok : ∀ (n : Nat) (N M : fz_N), fz_ok N → fz_pa n N M → fz_ok M
  | 0, _, _, h, e => e ▸ h
  | n + 1, _, M, h, e => by
    obtain ⟨a, b, H, r⟩ := e
    exact fz_pa_ok n _ M (fz_st_ok h H) r
/-- two faced pairs are one pair, or apart -/
theorem fz_two {N : fz_N} (h : fz_ok N) {a b c d : Nat} (H : fz_ac N a b) (K : fz_ac N c d) : fz_st N a b = fz_st N c d ∨ (c ≠ a ∧ c ≠ b) := by
  by_cases e : c = a
  · subst e
    have : b = d := by have := H.2.2.2.symm.trans K.2.2.2; omega
    subst this
    exact Or.inl rfl
  · by_cases e2 : c = b
    · subst e2
      have : a = d := by have := (fz_acs h H).2.2.2.symm.trans K.2.2.2; omega
      subst this
      exact Or.inl (fz_st_sym h H)
    · exact Or.inr ⟨e, e2⟩
theorem fz_A : ∀ (n : Nat) (N M : fz_N) (c d : Nat), fz_ok N → fz_pa (n + 1) N M → fz_no M → fz_ac N c d → fz_pa n (fz_st N c d) M
  | 0, N, M, c, d, h, ⟨a, b, H, e⟩, hn, K => by
    rcases fz_two h H K with q | ⟨q1, q2⟩
    · exact q ▸ e
    · have e' : fz_st N a b = M := e
      exact absurd (e' ▸ (fz_dia h H K q1 q2).1) (hn c d)
  | n + 1, N, M, c, d, h, ⟨a, b, H, e⟩, hn, K => by
    rcases fz_two h H K with q | ⟨q1, q2⟩
    · exact q ▸ e
    · have D := fz_dia h H K q1 q2
      have r := fz_A n (fz_st N a b) M c d (fz_st_ok h H) e hn D.1
      rw [D.2] at r
      refine ⟨a, b, ?_, r⟩
      refine (fz_dia h K H ?_ ?_).1
      · exact fun z => q1 z.symm
      · intro z
        apply q2
        have := K.2.2.2
        rw [← z] at this
        have k2 := (fz_acs h H).2.2.2
        have k3 : N.2.1 (N.2.1 (6 * c)) = N.2.1 (6 * a) := by rw [this]
        rw [h.1, H.2.2.2] at k3
        omega
theorem fz_B : ∀ (m n : Nat) (N M M' : fz_N), fz_ok N → fz_pa n N M → fz_no M → fz_pa m N M' → m ≤ n ∧ fz_pa (n - m) M' M
  | 0, n, N, M, M', h, hn, _, e => by
    cases e
    exact ⟨Nat.zero_le _, hn⟩
  | m + 1, 0, N, M, M', h, hn, no, ⟨a, b, H, _⟩ => by
    cases hn
    exact absurd H (no a b)
  | m + 1, n + 1, N, M, M', h, hn, no, ⟨a, b, H, r⟩ => by
    have q := fz_B m n _ M M' (fz_st_ok h H) (fz_A n N M a b h hn no H) no r
    exact ⟨Nat.succ_le_succ q.1, by rw [Nat.succ_sub_succ]; exact q.2⟩
/-- two runs that go on until rest or to the same last step -/
theorem fz_fin {T n m : Nat} {N M M' : fz_N} (h : fz_ok N) (hn : fz_pa n N M) (hm : fz_pa m N M') (n1 : n ≤ T) (m1 : m ≤ T) (n2 : n = T ∨ fz_no M) (m2 : m = T ∨ fz_no M') :
    (fz_no M ↔ fz_no M') ∧ (fz_no M → n = m ∧ M = M') := by
  have key : ∀ (n m : Nat) (M M' : fz_N), fz_pa n N M → fz_pa m N M' → n ≤ T → m ≤ T → (m = T ∨ fz_no M') → fz_no M → n = m ∧ M = M' := by
    intro n m M M' hn hm n1 m1 m2 no
    obtain ⟨q1, q2⟩ := fz_B m n N M M' h hn no hm
    have z : n - m = 0 := by
      rcases m2 with m2 | m2
      · omega
      · cases e : n - m with
        | zero => rfl
        | succ k =>
          rw [e] at q2
          obtain ⟨a, b, H, _⟩ := q2
          exact absurd H (m2 a b)
    rw [z] at q2
    exact ⟨by omega, q2.symm⟩
  refine ⟨⟨fun no => ?_, fun no => ?_⟩, fun no => key n m M M' hn hm n1 m1 m2 no⟩
  · exact (key n m M M' hn hm n1 m1 m2 no).2 ▸ no
  · exact (key m n M' M hm hn m1 n1 n2 no).2 ▸ no
end
section
/-! the middle level: far ports of concrete ports, tied to a net by a port map -/
def md_fo (x q : Nat) : Int32 := if q = x then -1 else nI q
def md_pk (k : Int32) : Nat := if k = 0 then 3 else if k = 1 then 3 else if k = 2 then 1 else 0
def md_M (h : Nat → Nat) (p t x : Nat) : Nat := if x = p then p else if x = t then (if h p = p then t else h p) else if h x = p then t else h x
def md_J (h : Nat → Nat) (s t x : Nat) : Nat := if x = s then t else if x = t then s else h x
def md_HR (D : Nat → Prop) (P h w : Nat → Nat) : Prop := (∀ p, D p → D (h p) ∧ w (P p) = P (h p)) ∧ ∀ p, ¬ D p → h p = p
def md_B (B : Nat → Prop) (P : Nat → Nat) : Prop := (∀ x y, B x → B y → P x = P y → x = y) ∧ ∀ x, B x → P x % 6 < 3
theorem md_hi {B D : Nat → Prop} {P h w : Nat → Nat} (hB : md_B B P) (hD : ∀ x, D x → B x) (hw : fz_I w) (H : md_HR D P h w) : fz_I h := by
  intro x
  by_cases dx : D x
  · have a := H.1 x dx
    have b := H.1 (h x) a.1
    refine hB.1 _ _ (hD _ b.1) (hD _ dx) ?_
    rw [← b.2, ← a.2]
    exact hw _
  · have a := H.2 x dx
    rw [a, a]
theorem md_HF {B D : Nat → Prop} {P h w : Nat → Nat} (hB : md_B B P) (hD : ∀ x, D x → B x) (hw : fz_I w) (H : md_HR D P h w) {p q : Nat} (hp : D p) (hq : D q) (hpq : p ≠ q)
    {pp qq : Nat} (ep : P p = pp) (eq : P q = qq) :
    md_HR (fun x => D x ∧ x ≠ p ∧ x ≠ q) P (fz_F h p q) (fz_F w pp qq) ∧ fz_L w pp qq = fz_L h p q := by
  subst ep eq
  have hh := md_hi hB hD hw H
  have ij : ∀ x y, D x → D y → (P x = P y ↔ x = y) := fun x y dx dy => ⟨hB.1 x y (hD x dx) (hD y dy), fun e => e ▸ rfl⟩
  have ap := H.1 p hp
  have aq := H.1 q hq
  have jp := ij _ _ ap.1 hp
  have jq := ij _ _ aq.1 hq
  have jpq := ij _ _ ap.1 hq
  have hhq := hh q
  have hhp := hh p
  refine ⟨⟨fun x hx => ?_, fun x hx => ?_⟩, ?_⟩
  · obtain ⟨dx, n1, n2⟩ := hx
    have ax := H.1 x dx
    have j1 := ij _ _ dx hp
    have j2 := ij _ _ dx hq
    have j3 := ij _ _ ax.1 hp
    have j4 := ij _ _ ax.1 hq
    have hhx := hh x
    unfold fz_F
    rw [ax.2, ap.2, aq.2]
    simp only [j1, j2, j3, j4, jp, jq]
    have dp := ap.1
    have dq := aq.1
    have dx' := ax.1
    rw [if_neg n1, if_neg n2, if_neg n1, if_neg n2]
    by_cases c1 : h x = p
    · rw [if_pos c1, if_pos c1]
      by_cases c2 : h q = q
      · rw [if_pos c2, if_pos c2]
        exact ⟨⟨dx, n1, n2⟩, rfl⟩
      · rw [if_neg c2, if_neg c2]
        refine ⟨⟨dq, fun z => n2 ?_, c2⟩, rfl⟩
        rw [← hhx, c1, ← z, hhq]
    · rw [if_neg c1, if_neg c1]
      by_cases c3 : h x = q
      · rw [if_pos c3, if_pos c3]
        by_cases c2 : h p = p
        · rw [if_pos c2, if_pos c2]
          exact ⟨⟨dx, n1, n2⟩, rfl⟩
        · rw [if_neg c2, if_neg c2]
          refine ⟨⟨dp, c2, fun z => n1 ?_⟩, rfl⟩
          rw [← hhx, c3, ← z, hhp]
      · rw [if_neg c3, if_neg c3]
        exact ⟨⟨dx', c1, c3⟩, rfl⟩
  · unfold fz_F
    by_cases c1 : x = p
    · rw [if_pos c1, c1]
    · by_cases c2 : x = q
      · rw [if_neg c1, if_pos c2, c2]
      · have dx : ¬ D x := fun z => hx ⟨z, c1, c2⟩
        have e := H.2 x dx
        rw [if_neg c1, if_neg c2, e, if_neg c1, if_neg c2]
  · unfold fz_L
    rw [ap.2]
    simp only [jpq]
theorem md_HM {B D : Nat → Prop} {P h w : Nat → Nat} (hB : md_B B P) (hD : ∀ x, D x → B x) (hw : fz_I w) (H : md_HR D P h w) {p t : Nat} (hp : D p) (ht : ¬ D t) (bt : B t)
    {pp tt T : Nat} (ep : P p = pp) (et : P t = tt) (eT : w tt = T) (hT : 3 ≤ T % 6) :
    md_HR (fun x => (D x ∧ x ≠ p) ∨ x = t) P (md_M h p t) (fz_F w pp T) ∧ fz_L w pp T = 0 := by
  subst ep et
  have hh := md_hi hB hD hw H
  have ij : ∀ x y, B x → B y → (P x = P y ↔ x = y) := fun x y dx dy => ⟨hB.1 x y dx dy, fun e => e ▸ rfl⟩
  have nT : ∀ x, B x → P x ≠ T := fun x bx e => by have := hB.2 x bx; rw [e] at this; omega
  have wT : w T = P t := by rw [← eT]; exact hw _
  have ap := H.1 p hp
  have tp : t ≠ p := fun e => ht (e ▸ hp)
  refine ⟨⟨fun x hx => ?_, fun x hx => ?_⟩, ?_⟩
  · rcases hx with ⟨dx, n1⟩ | rfl
    · have ax := H.1 x dx
      have xt : x ≠ t := fun e => ht (e ▸ dx)
      have j1 := ij _ _ (hD _ dx) (hD _ hp)
      have j3 := ij _ _ (hD _ ax.1) (hD _ hp)
      unfold fz_F md_M
      rw [ax.2, wT, ap.2]
      simp only [j1, j3]
      rw [if_neg n1, if_neg n1, if_neg xt, if_neg (nT _ (hD _ dx)), if_neg (nT _ bt), if_neg (nT _ (hD _ ax.1))]
      by_cases c : h x = p
      · rw [if_pos c, if_pos c]
        exact ⟨Or.inr rfl, rfl⟩
      · rw [if_neg c, if_neg c]
        exact ⟨Or.inl ⟨ax.1, c⟩, rfl⟩
    · unfold fz_F md_M
      have j1 := ij _ _ bt (hD _ hp)
      have j2 := ij _ _ (hD _ ap.1) (hD _ hp)
      rw [eT, ap.2]
      simp only [j1, j2]
      have nTp : ¬ T = P p := fun e => nT _ (hD _ hp) e.symm
      rw [if_neg tp, if_neg tp, if_neg (nT _ bt), if_neg nTp]
      simp only [if_true]
      by_cases c : h p = p
      · rw [if_pos c, if_pos c]
        exact ⟨Or.inr rfl, rfl⟩
      · rw [if_neg c, if_neg c]
        exact ⟨Or.inl ⟨ap.1, c⟩, rfl⟩
  · unfold md_M
    by_cases c1 : x = p
    · rw [if_pos c1, c1]
    · have c2 : x ≠ t := fun e => hx (Or.inr e)
      have dx : ¬ D x := fun z => hx (Or.inl ⟨z, c1⟩)
      have e := H.2 x dx
      rw [if_neg c1, if_neg c2, e, if_neg c1]
  · unfold fz_L
    rw [ap.2, if_neg (nT _ (hD _ ap.1))]
theorem md_HJ {B D : Nat → Prop} {P h w : Nat → Nat} (hB : md_B B P) (hD : ∀ x, D x → B x) (hw : fz_I w) (H : md_HR D P h w) {s t : Nat} (hs : ¬ D s) (ht : ¬ D t) (bs : B s) (bt : B t) (hst : s ≠ t)
    {ss tt S T : Nat} (es : P s = ss) (et : P t = tt) (eS : w ss = S) (hS : 3 ≤ S % 6) (eT : w tt = T) (hT : 3 ≤ T % 6) :
    md_HR (fun x => D x ∨ x = s ∨ x = t) P (md_J h s t) (fz_F w S T) ∧ fz_L w S T = 0 := by
  subst es et
  have nS : ∀ x, B x → P x ≠ S := fun x bx e => by have := hB.2 x bx; rw [e] at this; omega
  have nT : ∀ x, B x → P x ≠ T := fun x bx e => by have := hB.2 x bx; rw [e] at this; omega
  have wT : w T = P t := by rw [← eT]; exact hw _
  have wS : w S = P s := by rw [← eS]; exact hw _
  have nTS : ¬ T = S := fun e => hst (hB.1 _ _ bs bt (by rw [← wS, ← wT, e]))
  have nts : ¬ t = s := fun e => hst e.symm
  refine ⟨⟨fun x hx => ?_, fun x hx => ?_⟩, ?_⟩
  · rcases hx with dx | rfl | rfl
    · have ax := H.1 x dx
      have xs : x ≠ s := fun e => hs (e ▸ dx)
      have xt : x ≠ t := fun e => ht (e ▸ dx)
      unfold fz_F md_J
      rw [ax.2, if_neg (nS _ (hD _ dx)), if_neg (nT _ (hD _ dx)), if_neg (nS _ (hD _ ax.1)), if_neg (nT _ (hD _ ax.1)), if_neg xs, if_neg xt]
      exact ⟨Or.inl ax.1, rfl⟩
    · unfold fz_F md_J
      rw [eS, wT, if_neg (nS _ bs), if_neg (nT _ bs), if_pos rfl, if_neg (nT _ bt), if_pos rfl]
      exact ⟨Or.inr (Or.inr rfl), rfl⟩
    · unfold fz_F md_J
      rw [eT, wS, if_neg (nS _ bt), if_neg (nT _ bt), if_neg nTS, if_pos rfl, if_neg (nS _ bs), if_neg nts, if_pos rfl]
      exact ⟨Or.inr (Or.inl rfl), rfl⟩
  · unfold md_J
    rw [if_neg (fun e => hx (Or.inr (Or.inl e))), if_neg (fun e => hx (Or.inr (Or.inr e)))]
    exact H.2 x (fun z => hx (Or.inl z))
  · unfold fz_L
    rw [wS, if_neg (nT _ bs)]
theorem md_HC {D D' : Nat → Prop} {P P' h w : Nat → Nat} (H : md_HR D P h w) (e : ∀ x, D x ↔ D' x) (eP : ∀ x, D x → P x = P' x) : md_HR D' P' h w := by
  refine ⟨fun p hp => ?_, fun p hp => H.2 p (fun z => hp ((e p).mp z))⟩
  have dp := (e p).mpr hp
  have a := H.1 p dp
  exact ⟨(e _).mp a.1, by rw [← eP _ dp, ← eP _ a.1]; exact a.2⟩
theorem md_FK {w : Nat → Nat} {p q x y : Nat} (h : w x = y) (h1 : x ≠ p) (h2 : x ≠ q) (h3 : y ≠ p) (h4 : y ≠ q) : fz_F w p q x = y := by
  unfold fz_F
  rw [h, if_neg h1, if_neg h2, if_neg h3, if_neg h4]
def md_D (o : Nat) (E : Nat → Prop) (v : Nat → Nat) (x : Nat) : Prop := E x ∨ (o ≤ x ∧ (x - o) % 3 < v ((x - o) / 3))
def md_v (e : Nat) (rk : Nat → Int32) (c : Nat) : Nat := if c < e then md_pk (rk c) else 0
def md_P (o : Nat) (U g : Nat → Nat) (p : Nat) : Nat := if o ≤ p then 6 * g ((p - o) / 3) + (p - o) % 3 else U p
/-- what a run's state is, at the middle level, to a net -/
def md_R (o : Nat) (E : Nat → Prop) (U : Nat → Nat) (e : Nat) (rk : Nat → Int32) (h g : Nat → Nat) (N : fz_N) : Prop :=
  fz_ok N ∧ (N.1 26 = -1 ∧ N.1 27 = -1) ∧
  (∀ c, c < e → rk c ≠ -1 → N.1 (g c) = rk c) ∧
  (∀ n, N.1 n ≠ -1 → ∃ c, c < e ∧ rk c ≠ -1 ∧ g c = n) ∧
  (∀ c c', c < e → c' < e → rk c ≠ -1 → rk c' ≠ -1 → g c = g c' → c = c') ∧
  (∀ p, E p → (o ≤ p → (p - o) / 3 < e ∧ rk ((p - o) / 3) = -1) ∧ (md_P o U g p / 6 = 26 ∨ md_P o U g p / 6 = 27) ∧ md_P o U g p % 6 < 3 ∧ md_P o U g p = U p) ∧
  (∀ p q, E p → E q → md_P o U g p = md_P o U g q → p = q) ∧
  md_HR (md_D o E (md_v e rk)) (md_P o U g) h N.2.1
theorem md_Pc {o : Nat} {U g : Nat → Nat} {c s : Nat} (hs : s < 3) : md_P o U g (o + 3 * c + s) = 6 * g c + s := by
  unfold md_P
  rw [if_pos (by omega), show (o + 3 * c + s - o) / 3 = c by omega, show (o + 3 * c + s - o) % 3 = s by omega]
theorem md_pk_m : md_pk (-1) = 0 := by decide
theorem md_pk_3 (k : Int32) : md_pk k ≤ 3 := by
  unfold md_pk
  split
  · omega
  · split
    · omega
    · split <;> omega
/-- ports of live cells and of new ones (e .. e + 3) lie apart in the net -/
theorem md_Bok {o : Nat} {E : Nat → Prop} {U : Nat → Nat} {e : Nat} {rk : Nat → Int32} {h g : Nat → Nat} {N : fz_N} (R : md_R o E U e rk h g N) {g' : Nat → Nat} {k : Nat}
    (hg : ∀ c, c < e → g' c = g c)
    (hn : ∀ c, e ≤ c → c < e + k → 28 ≤ g' c ∧ (∀ c', c' < e → rk c' ≠ -1 → g' c ≠ g c') ∧ ∀ c', e ≤ c' → c' < e + k → g' c = g' c' → c = c') :
    md_B (fun x => E x ∨ (o ≤ x ∧ (((x - o) / 3 < e ∧ rk ((x - o) / 3) ≠ -1) ∨ (e ≤ (x - o) / 3 ∧ (x - o) / 3 < e + k)))) (md_P o U g') := by
  obtain ⟨ok, ⟨k6, k7⟩, r1, r2, r3, r4, r5, r6⟩ := R
  have PE : ∀ x, E x → md_P o U g' x = md_P o U g x := by
    intro x hx
    unfold md_P
    split
    · rename_i ho
      rw [hg _ ((r4 x hx).1 ho).1]
    · rfl
  have nm : ∀ c, ((c < e ∧ rk c ≠ -1) ∨ (e ≤ c ∧ c < e + k)) → g' c ≠ 26 ∧ g' c ≠ 27 := by
    intro c hc
    rcases hc with ⟨c1, c2⟩ | ⟨c1, c2⟩
    · have := r1 c c1 c2
      rw [hg c c1]
      refine ⟨fun z => c2 ?_, fun z => c2 ?_⟩
      · rw [← this, z]; exact k6
      · rw [← this, z]; exact k7
    · have := (hn c c1 c2).1
      omega
  have ic : ∀ c c', ((c < e ∧ rk c ≠ -1) ∨ (e ≤ c ∧ c < e + k)) → ((c' < e ∧ rk c' ≠ -1) ∨ (e ≤ c' ∧ c' < e + k)) → g' c = g' c' → c = c' := by
    intro c c' hc hc' ee
    rcases hc with ⟨c1, c2⟩ | ⟨c1, c2⟩ <;> rcases hc' with ⟨d1, d2⟩ | ⟨d1, d2⟩
    · rw [hg c c1, hg c' d1] at ee
      exact r3 c c' c1 d1 c2 d2 ee
    · rw [hg c c1] at ee
      exact absurd ee.symm ((hn c' d1 d2).2.1 c c1 c2)
    · rw [hg c' d1] at ee
      exact absurd ee ((hn c c1 c2).2.1 c' d1 d2)
    · exact (hn c c1 c2).2.2 c' d1 d2 ee
  have PC : ∀ x, o ≤ x → md_P o U g' x = 6 * g' ((x - o) / 3) + (x - o) % 3 := by
    intro x hx
    unfold md_P
    rw [if_pos hx]
  refine ⟨fun x y bx by' exy => ?_, fun x bx => ?_⟩
  · rcases bx with bx | ⟨bx, cx⟩ <;> rcases by' with b2 | ⟨b2, cy⟩
    · rw [PE x bx, PE y b2] at exy
      exact r5 x y bx b2 exy
    · exfalso
      have a := r4 x bx
      have b := nm _ cy
      rw [PE x bx, PC y b2] at exy
      omega
    · exfalso
      have a := r4 y b2
      have b := nm _ cx
      rw [PE y b2, PC x bx] at exy
      omega
    · rw [PC x bx, PC y b2] at exy
      have := ic _ _ cx cy (by omega)
      omega
  · rcases bx with bx | ⟨bx, cx⟩
    · rw [PE x bx]
      exact (r4 x bx).2.2.1
    · rw [PC x bx]
      omega
end
section
/-! one step at the middle level is one step of the net -/
def md_p (o c s : Nat) : Nat := o + 3 * c + s
theorem md_pe {o c s c' s' : Nat} (hs : s < 3) (hs' : s' < 3) : md_p o c s = md_p o c' s' ↔ c = c' ∧ s = s' := by
  unfold md_p; omega
theorem md_Pp {o : Nat} {U g : Nat → Nat} {c s : Nat} (hs : s < 3) : md_P o U g (md_p o c s) = 6 * g c + s := md_Pc hs
theorem md_Dp {o : Nat} {E : Nat → Prop} {v : Nat → Nat} {c s : Nat} (h : s < v c) (hs : s < 3) : md_D o E v (md_p o c s) := by
  refine Or.inr ⟨by unfold md_p; omega, ?_⟩
  unfold md_p
  rw [show (o + 3 * c + s - o) / 3 = c by omega, show (o + 3 * c + s - o) % 3 = s by omega]
  exact h
theorem md_Dn {o : Nat} {E : Nat → Prop} {v : Nat → Nat} {c s : Nat} (hE : ¬ E (md_p o c s)) (h : v c ≤ s) (hs : s < 3) : ¬ md_D o E v (md_p o c s) := by
  rintro (z | ⟨_, z⟩)
  · exact hE z
  · unfold md_p at z
    rw [show (o + 3 * c + s - o) / 3 = c by omega, show (o + 3 * c + s - o) % 3 = s by omega] at z
    omega
theorem md_Di {o : Nat} {E : Nat → Prop} {v : Nat → Nat} {c s : Nat} (hE : ¬ E (md_p o c s)) (hs : s < 3) : md_D o E v (md_p o c s) ↔ s < v c :=
  ⟨fun z => Nat.lt_of_not_le (fun k => md_Dn hE k hs z), fun z => md_Dp z hs⟩
theorem md_xx {o x : Nat} (h : o ≤ x) : ∃ c s, s < 3 ∧ x = md_p o c s := ⟨(x - o) / 3, (x - o) % 3, by omega, by unfold md_p; omega⟩
theorem md_pd {o c s : Nat} (hs : s < 3) : (md_p o c s - o) / 3 = c := by unfold md_p; omega
theorem md_po {o c s : Nat} : o ≤ md_p o c s := by unfold md_p; omega
theorem md_DE {o : Nat} {E : Nat → Prop} {v v' : Nat → Nat} {Q : Nat → Prop} (h1 : ∀ x, E x → Q x) (h2 : ∀ x, ¬ E x → ¬ o ≤ x → ¬ Q x) (h3 : ∀ c s, s < 3 → ¬ E (md_p o c s) → (Q (md_p o c s) ↔ s < v' c)) : ∀ x, Q x ↔ md_D o E v' x := by
  intro x
  by_cases ex : E x
  · exact ⟨fun _ => Or.inl ex, fun _ => h1 x ex⟩
  · by_cases ox : o ≤ x
    · obtain ⟨c, s, hs, rfl⟩ := md_xx ox
      exact (h3 c s hs ex).trans (md_Di ex hs).symm
    · exact ⟨fun z => absurd z (h2 x ex ox), fun z => z.elim (fun w => absurd w ex) (fun w => absurd w.1 ox)⟩
/-- what holds of two cells that face each other -/
theorem md_face {o : Nat} {E : Nat → Prop} {U : Nat → Nat} {e : Nat} {rk : Nat → Int32} {h g : Nat → Nat} {N : fz_N} (R : md_R o E U e rk h g N) {a b : Nat} (ha : a < e) (hb : b < e) (la : rk a ≠ -1) (lb : rk b ≠ -1) (hab : a ≠ b)
    (hh : h (md_p o a 0) = md_p o b 0) : fz_ac N (g a) (g b) ∧ fz_k3 (rk a) ∧ fz_k3 (rk b) := by
  obtain ⟨ok, _, r1, r2, r3, r4, r5, r6⟩ := R
  have ka := r1 a ha la
  have kb := r1 b hb lb
  have la' : N.1 (g a) ≠ -1 := by rw [ka]; exact la
  have lb' : N.1 (g b) ≠ -1 := by rw [kb]; exact lb
  have k3a : fz_k3 (rk a) := ka ▸ (ok.2 _ la').2.1
  have k3b : fz_k3 (rk b) := kb ▸ (ok.2 _ lb').2.1
  refine ⟨⟨la', lb', fun z => hab (r3 a b ha hb la lb z), ?_⟩, k3a, k3b⟩
  have va : 0 < md_v e rk a := by
    unfold md_v
    rw [if_pos ha]
    rcases k3a with z | z | z <;> rw [z] <;> decide
  have D := md_Dp (o := o) (E := E) (c := a) (s := 0) va (by omega)
  have q := (r6.1 _ D).2
  rw [hh, md_Pp (by omega), md_Pp (by omega)] at q
  exact q
/-- the names' part of a step -/
theorem md_mk {o : Nat} {E : Nat → Prop} {U : Nat → Nat} {e : Nat} {rk : Nat → Int32} {h g : Nat → Nat} {N : fz_N} (R : md_R o E U e rk h g N) {a b : Nat} (ha : a < e) (hb : b < e) (la : rk a ≠ -1) (lb : rk b ≠ -1)
    (AC : fz_ac N (g a) (g b)) {e' : Nat} {rk' : Nat → Int32} {h' g' : Nat → Nat} (he : e ≤ e') (hg : ∀ c, c < e → g' c = g c) (ka : rk' a = -1) (kb : rk' b = -1) (kk : ∀ c, c < e → c ≠ a → c ≠ b → rk' c = rk c)
    (hn : ∀ c, e ≤ c → c < e' → ((g' c / 2 = g a ∧ rk' c = fz_ck (rk a) (rk b)) ∨ (g' c / 2 = g b ∧ rk' c = fz_ck (rk b) (rk a))) ∧ ∀ c', e ≤ c' → c' < e' → g' c = g' c' → c = c')
    (sa : ∀ n, n / 2 = g a → fz_ck (rk a) (rk b) ≠ -1 → ∃ c, e ≤ c ∧ c < e' ∧ g' c = n) (sb : ∀ n, n / 2 = g b → fz_ck (rk b) (rk a) ≠ -1 → ∃ c, e ≤ c ∧ c < e' ∧ g' c = n)
    (H : md_HR (md_D o E (md_v e' rk')) (md_P o U g') h' (fz_st N (g a) (g b)).2.1) : md_R o E U e' rk' h' g' (fz_st N (g a) (g b)) := by
  obtain ⟨ok, ⟨k6, k7⟩, r1, r2, r3, r4, r5, r6⟩ := R
  have A := r1 a ha la
  have B := r1 b hb lb
  have a16 := (ok.2 _ AC.1).1
  have b16 := (ok.2 _ AC.2.1).1
  have kdn : ∀ n, (fz_st N (g a) (g b)).1 n = if n = g a ∨ n = g b then -1 else if n / 2 = g a then fz_ck (rk a) (rk b) else if n / 2 = g b then fz_ck (rk b) (rk a) else N.1 n := by
    intro n
    rw [← A, ← B]; rfl
  have dca : ∀ n, n / 2 = g a → N.1 n = -1 := fun n z => ((ok.2 _ AC.1).2.2 n (fz_ds1 z)).1
  have dcb : ∀ n, n / 2 = g b → N.1 n = -1 := fun n z => ((ok.2 _ AC.2.1).2.2 n (fz_ds1 z)).1
  have old : ∀ c, c < e → rk' c ≠ -1 → c ≠ a ∧ c ≠ b ∧ rk c ≠ -1 ∧ rk' c = rk c := by
    intro c hc lc
    have n1 : c ≠ a := fun z => lc (z ▸ ka)
    have n2 : c ≠ b := fun z => lc (z ▸ kb)
    have q := kk c hc n1 n2
    exact ⟨n1, n2, q ▸ lc, q⟩
  have oldN : ∀ c, c < e → rk' c ≠ -1 → (fz_st N (g a) (g b)).1 (g c) = rk' c := by
    intro c hc lc
    obtain ⟨n1, n2, l, q⟩ := old c hc lc
    have kc := r1 c hc l
    have lk : N.1 (g c) ≠ -1 := by rw [kc]; exact l
    rw [kdn, if_neg (fun z => z.elim (fun z => n1 (r3 c a hc ha l la z)) (fun z => n2 (r3 c b hc hb l lb z))), if_neg (fun z => lk (dca _ z)), if_neg (fun z => lk (dcb _ z)), kc, q]
  have PE : ∀ x, E x → md_P o U g' x = md_P o U g x := by
    intro x hx
    unfold md_P
    split
    · rename_i ho
      rw [hg _ ((r4 x hx).1 ho).1]
    · rfl
  refine ⟨fz_st_ok ok AC, ⟨?_, ?_⟩, ?_, ?_, ?_, ?_, ?_, H⟩
  · rw [kdn, k6, if_neg (show ¬ 26 / 2 = g a by omega), if_neg (show ¬ 26 / 2 = g b by omega)]
    split <;> rfl
  · rw [kdn, k7, if_neg (show ¬ 27 / 2 = g a by omega), if_neg (show ¬ 27 / 2 = g b by omega)]
    split <;> rfl
  · intro c hc lc
    by_cases c1 : c < e
    · rw [hg c c1]
      exact oldN c c1 lc
    · have q := (hn c (by omega) hc).1
      have ne1 : ¬ (g' c = g a ∨ g' c = g b) := by
        intro z
        have l : N.1 (g' c) ≠ -1 := z.elim (fun z => z ▸ AC.1) (fun z => z ▸ AC.2.1)
        exact l (q.elim (fun z => dca _ z.1) (fun z => dcb _ z.1))
      rw [kdn, if_neg ne1]
      rcases q with ⟨q1, q2⟩ | ⟨q1, q2⟩
      · rw [if_pos q1, q2]
      · rw [if_neg (fun z => AC.2.2.1 (z.symm.trans q1)), if_pos q1, q2]
  · intro n hn'
    rw [kdn] at hn'
    by_cases c1 : n = g a ∨ n = g b
    · rw [if_pos c1] at hn'
      exact absurd rfl hn'
    · rw [if_neg c1] at hn'
      by_cases c2 : n / 2 = g a
      · rw [if_pos c2] at hn'
        obtain ⟨c, q1, q2, q3⟩ := sa n c2 hn'
        refine ⟨c, q2, ?_, q3⟩
        rcases (hn c q1 q2).1 with ⟨z1, z2⟩ | ⟨z1, z2⟩
        · rw [z2]; exact hn'
        · exact absurd (c2.symm.trans (q3 ▸ z1)) AC.2.2.1
      · rw [if_neg c2] at hn'
        by_cases c3 : n / 2 = g b
        · rw [if_pos c3] at hn'
          obtain ⟨c, q1, q2, q3⟩ := sb n c3 hn'
          refine ⟨c, q2, ?_, q3⟩
          rcases (hn c q1 q2).1 with ⟨z1, z2⟩ | ⟨z1, z2⟩
          · exact absurd (q3 ▸ z1) c2
          · rw [z2]; exact hn'
        · rw [if_neg c3] at hn'
          obtain ⟨c, q1, q2, q3⟩ := r2 n hn'
          refine ⟨c, by omega, ?_, (hg c q1).trans q3⟩
          rw [kk c q1 (fun z => c1 (Or.inl (z ▸ q3.symm))) (fun z => c1 (Or.inr (z ▸ q3.symm)))]
          exact q2
  · intro c c' hc hc' lc lc' ee
    have mix : ∀ d d', d < e → e ≤ d' → d' < e' → rk' d ≠ -1 → g' d = g' d' → False := by
      intro d d' h1 h2 h3 l1 z
      obtain ⟨n1, n2, l, q⟩ := old d h1 l1
      have kd := r1 d h1 l
      have lk : N.1 (g' d) ≠ -1 := by rw [hg d h1, kd]; exact l
      rw [z] at lk
      exact lk ((hn d' h2 h3).1.elim (fun z => dca _ z.1) (fun z => dcb _ z.1))
    by_cases c1 : c < e <;> by_cases c2 : c' < e
    · obtain ⟨_, _, l1, _⟩ := old c c1 lc
      obtain ⟨_, _, l2, _⟩ := old c' c2 lc'
      rw [hg c c1, hg c' c2] at ee
      exact r3 c c' c1 c2 l1 l2 ee
    · exact (mix c c' c1 (by omega) hc' lc ee).elim
    · exact (mix c' c c2 (by omega) hc lc' ee.symm).elim
    · exact (hn c (by omega) hc).2 c' (by omega) hc' ee
  · intro p hp
    have q := r4 p hp
    rw [PE p hp]
    refine ⟨fun ho => ?_, q.2⟩
    obtain ⟨q1, q2⟩ := q.1 ho
    refine ⟨by omega, ?_⟩
    rw [kk _ q1 (fun z => la (z ▸ q2)) (fun z => lb (z ▸ q2))]
    exact q2
  · intro p q hp hq ee
    rw [PE p hp, PE q hq] at ee
    exact r5 p q hp hq ee
theorem md_DB {o : Nat} {E : Nat → Prop} (e k : Nat) (rk : Nat → Int32) : ∀ x, md_D o E (md_v e rk) x → (E x ∨ (o ≤ x ∧ (((x - o) / 3 < e ∧ rk ((x - o) / 3) ≠ -1) ∨ (e ≤ (x - o) / 3 ∧ (x - o) / 3 < e + k)))) := by
  intro x hx
  rcases hx with z | ⟨z1, z2⟩
  · exact Or.inl z
  · refine Or.inr ⟨z1, Or.inl ?_⟩
    unfold md_v at z2
    by_cases c : (x - o) / 3 < e
    · refine ⟨c, fun q => ?_⟩
      rw [if_pos c, q, md_pk_m] at z2
      omega
    · rw [if_neg c] at z2
      omega
theorem md_s0 {o : Nat} {E : Nat → Prop} {U : Nat → Nat} {e : Nat} {rk : Nat → Int32} {h g : Nat → Nat} {N : fz_N} (R : md_R o E U e rk h g N) {a b : Nat} (ha : a < e) (hb : b < e) (la : rk a ≠ -1) (lb : rk b ≠ -1) (hab : a ≠ b)
    (hh : h (md_p o a 0) = md_p o b 0) (k2a : rk a = 2) (k2b : rk b = 2) :
    md_R o E U e (upd (upd rk a (-1)) b (-1)) (fz_F h (md_p o a 0) (md_p o b 0)) g (fz_st N (g a) (g b)) ∧ (fz_st N (g a) (g b)).2.2 = N.2.2 + 1 := by
  obtain ⟨AC, k3a, k3b⟩ := md_face R ha hb la lb hab hh
  have R' := R
  obtain ⟨ok, ⟨k6, k7⟩, r1, r2, r3, r4, r5, r6⟩ := R'
  have A := r1 a ha la
  have B := r1 b hb lb
  have nba : b ≠ a := fun z => hab z.symm
  have hE : ∀ c s, s < 3 → E (md_p o c s) → c < e ∧ rk c = -1 := by
    intro c s hs z
    have q := (r4 _ z).1 md_po
    rw [md_pd hs] at q
    exact q
  have ka : (upd (upd rk a (-1)) b (-1)) a = -1 := by rw [pk_un hab, pk_us]
  have kb : (upd (upd rk a (-1)) b (-1)) b = -1 := pk_us
  have kk : ∀ c, c ≠ a → c ≠ b → (upd (upd rk a (-1)) b (-1)) c = rk c := fun c n1 n2 => by rw [pk_un n2, pk_un n1]
  have nEa : ∀ s, s < 3 → ¬ E (md_p o a s) := fun s hs z => la (hE a s hs z).2
  have nEb : ∀ s, s < 3 → ¬ E (md_p o b s) := fun s hs z => lb (hE b s hs z).2
  have va : md_v e rk a = 1 := by unfold md_v; rw [if_pos ha, k2a]; rfl
  have vb : md_v e rk b = 1 := by unfold md_v; rw [if_pos hb, k2b]; rfl
  have hB := md_Bok R (g' := g) (k := 0) (fun c _ => rfl) (fun c h1 h2 => by omega)
  have hD : ∀ x, md_D o E (md_v e rk) x → (E x ∨ (o ≤ x ∧ (((x - o) / 3 < e ∧ rk ((x - o) / 3) ≠ -1) ∨ (e ≤ (x - o) / 3 ∧ (x - o) / 3 < e + 0)))) := md_DB e 0 rk
  have F1 := md_HF hB hD ok.1 r6 (p := md_p o a 0) (q := md_p o b 0) (md_Dp (by rw [va]; omega) (by omega)) (md_Dp (by rw [vb]; omega) (by omega)) (fun z => hab ((md_pe (by omega) (by omega)).mp z).1) (md_Pp (by omega)) (md_Pp (by omega))
  have est : fz_st N (g a) (g b) = (fz_kd N.1 (g a) (g b), fz_F N.2.1 (6 * g a + 0) (6 * g b + 0), N.2.2 + fz_L N.2.1 (6 * g a + 0) (6 * g b + 0)) := by
    unfold fz_st fz_ops fz_tl
    rw [A, B, k2a, k2b, if_pos rfl, if_pos rfl]
    rfl
  have eL : fz_L h (md_p o a 0) (md_p o b 0) = 1 := by unfold fz_L; rw [if_pos hh]
  refine ⟨?_, by rw [est, F1.2, eL]⟩
  refine md_mk R ha hb la lb AC (Nat.le_refl e) (fun c _ => rfl) ka kb (fun c _ n1 n2 => kk c n1 n2) (fun c h1 h2 => by omega) (fun n _ z => ?_) (fun n _ z => ?_) ?_
  · exfalso; apply z; rw [k2a, k2b]; rfl
  · exfalso; apply z; rw [k2a, k2b]; rfl
  · rw [est]
    refine md_HC F1.1 (md_DE (v := md_v e rk) ?_ ?_ ?_) (fun _ _ => rfl)
    · intro x ex
      exact ⟨Or.inl ex, fun z => nEa 0 (by omega) (z ▸ ex), fun z => nEb 0 (by omega) (z ▸ ex)⟩
    · intro x ex ox z
      exact z.1.elim ex (fun z => ox z.1)
    · intro c s hs ex
      rw [md_Di ex hs]
      show _ ↔ s < md_v e _ c
      rw [Ne, Ne, md_pe hs (by omega), md_pe hs (by omega)]
      by_cases c1 : c = a
      · subst c1
        have : md_v e (upd (upd rk c (-1)) b (-1)) c = 0 := by unfold md_v; rw [if_pos ha, ka]; rfl
        rw [this, va]; omega
      · by_cases c2 : c = b
        · subst c2
          have : md_v e (upd (upd rk a (-1)) c (-1)) c = 0 := by unfold md_v; rw [if_pos hb, kb]; rfl
          rw [this, vb]; omega
        · have : md_v e (upd (upd rk a (-1)) b (-1)) c = md_v e rk c := by unfold md_v; rw [kk c c1 c2]
          rw [this]; omega
theorem md_s1 {o : Nat} {E : Nat → Prop} {U : Nat → Nat} {e : Nat} {rk : Nat → Int32} {h g : Nat → Nat} {N : fz_N} (R : md_R o E U e rk h g N) {a b : Nat} (ha : a < e) (hb : b < e) (la : rk a ≠ -1) (lb : rk b ≠ -1) (hab : a ≠ b)
    (hh : h (md_p o a 0) = md_p o b 0) (kab : rk a = rk b) (k2 : rk a ≠ 2) :
    md_R o E U e (upd (upd rk a (-1)) b (-1)) (fz_F (fz_F (fz_F h (md_p o a 0) (md_p o b 0)) (md_p o a 1) (md_p o b 1)) (md_p o a 2) (md_p o b 2)) g (fz_st N (g a) (g b)) ∧
    (fz_st N (g a) (g b)).2.2 = N.2.2 + 1 + fz_L (fz_F h (md_p o a 0) (md_p o b 0)) (md_p o a 1) (md_p o b 1) + fz_L (fz_F (fz_F h (md_p o a 0) (md_p o b 0)) (md_p o a 1) (md_p o b 1)) (md_p o a 2) (md_p o b 2) := by
  obtain ⟨AC, k3a, k3b⟩ := md_face R ha hb la lb hab hh
  have R' := R
  obtain ⟨ok, ⟨k6, k7⟩, r1, r2, r3, r4, r5, r6⟩ := R'
  have A := r1 a ha la
  have B := r1 b hb lb
  have nba : b ≠ a := fun z => hab z.symm
  have hE : ∀ c s, s < 3 → E (md_p o c s) → c < e ∧ rk c = -1 := by
    intro c s hs z
    have q := (r4 _ z).1 md_po
    rw [md_pd hs] at q
    exact q
  have ka : (upd (upd rk a (-1)) b (-1)) a = -1 := by rw [pk_un hab, pk_us]
  have kb : (upd (upd rk a (-1)) b (-1)) b = -1 := pk_us
  have kk : ∀ c, c ≠ a → c ≠ b → (upd (upd rk a (-1)) b (-1)) c = rk c := fun c n1 n2 => by rw [pk_un n2, pk_un n1]
  have nEa : ∀ s, s < 3 → ¬ E (md_p o a s) := fun s hs z => la (hE a s hs z).2
  have nEb : ∀ s, s < 3 → ¬ E (md_p o b s) := fun s hs z => lb (hE b s hs z).2
  have va : md_v e rk a = 3 := by unfold md_v; rw [if_pos ha]; rcases k3a with z | z | z <;> first | exact absurd z k2 | (rw [z]; rfl)
  have vb : md_v e rk b = 3 := by unfold md_v; rw [if_pos hb, ← kab]; rcases k3a with z | z | z <;> first | exact absurd z k2 | (rw [z]; rfl)
  have hB := md_Bok R (g' := g) (k := 0) (fun c _ => rfl) (fun c h1 h2 => by omega)
  have hD : ∀ x, md_D o E (md_v e rk) x → (E x ∨ (o ≤ x ∧ (((x - o) / 3 < e ∧ rk ((x - o) / 3) ≠ -1) ∨ (e ≤ (x - o) / 3 ∧ (x - o) / 3 < e + 0)))) := md_DB e 0 rk
  have pab : ∀ s t, s < 3 → t < 3 → md_p o a s ≠ md_p o b t := fun s t hs ht z => hab ((md_pe hs ht).mp z).1
  have pba : ∀ s t, s < 3 → t < 3 → md_p o b s ≠ md_p o a t := fun s t hs ht z => nba ((md_pe hs ht).mp z).1
  have paa : ∀ s t, s < 3 → t < 3 → s ≠ t → md_p o a s ≠ md_p o a t := fun s t hs ht n z => n ((md_pe hs ht).mp z).2
  have pbb : ∀ s t, s < 3 → t < 3 → s ≠ t → md_p o b s ≠ md_p o b t := fun s t hs ht n z => n ((md_pe hs ht).mp z).2
  have Da : ∀ s, s < 3 → md_D o E (md_v e rk) (md_p o a s) := fun s hs => md_Dp (by rw [va]; exact hs) hs
  have Db : ∀ s, s < 3 → md_D o E (md_v e rk) (md_p o b s) := fun s hs => md_Dp (by rw [vb]; exact hs) hs
  have gab : g a ≠ g b := AC.2.2.1
  have i0 := ok.1
  have i1 := fz_inv i0 (p := 6 * g a + 0) (q := 6 * g b + 0) (by omega)
  have i2 := fz_inv i1 (p := 6 * g a + 1) (q := 6 * g b + 1) (by omega)
  have F1 := md_HF hB hD i0 r6 (Da 0 (by omega)) (Db 0 (by omega)) (pab 0 0 (by omega) (by omega)) (md_Pp (by omega)) (md_Pp (by omega))
  have F2 := md_HF hB (fun x z => hD x z.1) i1 F1.1 (p := md_p o a 1) (q := md_p o b 1) ⟨Da 1 (by omega), paa 1 0 (by omega) (by omega) (by omega), pab 1 0 (by omega) (by omega)⟩ ⟨Db 1 (by omega), pba 1 0 (by omega) (by omega), pbb 1 0 (by omega) (by omega) (by omega)⟩ (pab 1 1 (by omega) (by omega)) (md_Pp (by omega)) (md_Pp (by omega))
  have F3 := md_HF hB (fun x z => hD x z.1.1) i2 F2.1 (p := md_p o a 2) (q := md_p o b 2) ⟨⟨Da 2 (by omega), paa 2 0 (by omega) (by omega) (by omega), pab 2 0 (by omega) (by omega)⟩, paa 2 1 (by omega) (by omega) (by omega), pab 2 1 (by omega) (by omega)⟩ ⟨⟨Db 2 (by omega), pba 2 0 (by omega) (by omega), pbb 2 0 (by omega) (by omega) (by omega)⟩, pba 2 1 (by omega) (by omega), pbb 2 1 (by omega) (by omega) (by omega)⟩ (pab 2 2 (by omega) (by omega)) (md_Pp (by omega)) (md_Pp (by omega))
  have est : fz_st N (g a) (g b) = (fz_kd N.1 (g a) (g b), fz_F (fz_F (fz_F N.2.1 (6 * g a + 0) (6 * g b + 0)) (6 * g a + 1) (6 * g b + 1)) (6 * g a + 2) (6 * g b + 2), N.2.2 + fz_L N.2.1 (6 * g a + 0) (6 * g b + 0) + fz_L (fz_F N.2.1 (6 * g a + 0) (6 * g b + 0)) (6 * g a + 1) (6 * g b + 1) + fz_L (fz_F (fz_F N.2.1 (6 * g a + 0) (6 * g b + 0)) (6 * g a + 1) (6 * g b + 1)) (6 * g a + 2) (6 * g b + 2)) := by
    unfold fz_st fz_ops fz_tl
    rw [A, B, if_pos kab, if_neg k2]
    rfl
  have eL : fz_L h (md_p o a 0) (md_p o b 0) = 1 := by unfold fz_L; rw [if_pos hh]
  refine ⟨?_, by rw [est, F1.2, F2.2, F3.2, eL]⟩
  refine md_mk R ha hb la lb AC (Nat.le_refl e) (fun c _ => rfl) ka kb (fun c _ n1 n2 => kk c n1 n2) (fun c h1 h2 => by omega) (fun n _ z => ?_) (fun n _ z => ?_) ?_
  · exfalso; apply z; unfold fz_ck; rw [if_pos kab]
  · exfalso; apply z; unfold fz_ck; rw [if_pos kab.symm]
  · rw [est]
    refine md_HC F3.1 (md_DE (v := md_v e rk) ?_ ?_ ?_) (fun _ _ => rfl)
    · intro x ex
      have na : ∀ s, s < 3 → x ≠ md_p o a s := fun s hs z => nEa s hs (z ▸ ex)
      have nb : ∀ s, s < 3 → x ≠ md_p o b s := fun s hs z => nEb s hs (z ▸ ex)
      exact ⟨⟨⟨Or.inl ex, na 0 (by omega), nb 0 (by omega)⟩, na 1 (by omega), nb 1 (by omega)⟩, na 2 (by omega), nb 2 (by omega)⟩
    · intro x ex ox z
      exact z.1.1.1.elim ex (fun z => ox z.1)
    · intro c s hs ex
      rw [md_Di ex hs]
      show _ ↔ s < md_v e _ c
      simp only [Ne, md_pe hs (show 0 < 3 by omega), md_pe hs (show 1 < 3 by omega), md_pe hs (show 2 < 3 by omega)]
      by_cases c1 : c = a
      · subst c1
        have : md_v e (upd (upd rk c (-1)) b (-1)) c = 0 := by unfold md_v; rw [if_pos ha, ka]; rfl
        rw [this, va]; omega
      · by_cases c2 : c = b
        · subst c2
          have : md_v e (upd (upd rk a (-1)) c (-1)) c = 0 := by unfold md_v; rw [if_pos hb, kb]; rfl
          rw [this, vb]; omega
        · have : md_v e (upd (upd rk a (-1)) b (-1)) c = md_v e rk c := by unfold md_v; rw [kk c c1 c2]
          rw [this]; simp only [c1, c2, false_and, not_false_eq_true, and_true]
end
section
/-! erasing and copying at the middle level -/
theorem md_PD {o : Nat} {E : Nat → Prop} {U : Nat → Nat} {e : Nat} {rk : Nat → Int32} {h g : Nat → Nat} {N : fz_N} (R : md_R o E U e rk h g N) {g' : Nat → Nat} (hg : ∀ c, c < e → g' c = g c) :
    ∀ x, md_D o E (md_v e rk) x → md_P o U g x = md_P o U g' x := by
  obtain ⟨ok, ⟨k6, k7⟩, r1, r2, r3, r4, r5, r6⟩ := R
  intro x hx
  unfold md_P
  split
  · rename_i ho
    have q : (x - o) / 3 < e := by
      rcases md_DB e 0 rk x hx with z | ⟨_, z⟩
      · exact ((r4 x z).1 ho).1
      · omega
    rw [hg _ q]
  · rfl
theorem md_vg0 {w : Nat → Nat} {n : Nat} (h : fz_vg w (2 * n)) {i : Nat} (hi : i < 3) : w (12 * n + i) = 12 * n + i + 3 := by
  have q := h i (by omega)
  rw [show 6 * (2 * n) + i = 12 * n + i by omega] at q
  rw [q]; omega
theorem md_vg1 {w : Nat → Nat} {n : Nat} (h : fz_vg w (2 * n + 1)) {i : Nat} (hi : i < 3) : w (12 * n + 6 + i) = 12 * n + 6 + i + 3 := by
  have q := h i (by omega)
  rw [show 6 * (2 * n + 1) + i = 12 * n + 6 + i by omega] at q
  rw [q]; omega
theorem md_er {o : Nat} {E : Nat → Prop} {U : Nat → Nat} {e : Nat} {rk : Nat → Int32} {h g : Nat → Nat} {N : fz_N} (R : md_R o E U e rk h g N) {a b : Nat} (ha : a < e) (hb : b < e) (la : rk a ≠ -1) (lb : rk b ≠ -1) (hab : a ≠ b)
    (hh : h (md_p o a 0) = md_p o b 0) (k2a : rk a ≠ 2) (k2b : rk b = 2) :
    ∃ g', md_R o E U (e + 2) (upd (upd (upd (upd rk a (-1)) b (-1)) e 2) (e + 1) 2) (md_M (md_M (fz_F h (md_p o a 0) (md_p o b 0)) (md_p o a 1) (md_p o e 0)) (md_p o a 2) (md_p o (e + 1) 0)) g' (fz_st N (g a) (g b)) ∧ (fz_st N (g a) (g b)).2.2 = N.2.2 + 1 := by
  obtain ⟨AC, k3a, k3b⟩ := md_face R ha hb la lb hab hh
  have R' := R
  obtain ⟨ok, ⟨k6, k7⟩, r1, r2, r3, r4, r5, r6⟩ := R'
  have A := r1 a ha la
  have B := r1 b hb lb
  have nba : b ≠ a := fun z => hab z.symm
  have hE : ∀ c s, s < 3 → E (md_p o c s) → c < e ∧ rk c = -1 := by
    intro c s hs z
    have q := (r4 _ z).1 md_po
    rw [md_pd hs] at q
    exact q
  have nEa : ∀ s, s < 3 → ¬ E (md_p o a s) := fun s hs z => la (hE a s hs z).2
  have nEb : ∀ s, s < 3 → ¬ E (md_p o b s) := fun s hs z => lb (hE b s hs z).2
  have nEn : ∀ c s, e ≤ c → s < 3 → ¬ E (md_p o c s) := fun c s hc hs z => by have := (hE c s hs z).1; omega
  have vn : ∀ c, e ≤ c → md_v e rk c = 0 := fun c hc => by unfold md_v; rw [if_neg (by omega)]
  have nDn : ∀ c s, e ≤ c → s < 3 → ¬ md_D o E (md_v e rk) (md_p o c s) := fun c s hc hs => md_Dn (nEn c s hc hs) (by rw [vn c hc]; omega) hs
  have sAB := fz_lsep ok AC.1 AC.2.1 AC.2.2.1
  unfold fz_sep at sAB
  have a16 := (ok.2 _ AC.1).1
  have b16 := (ok.2 _ AC.2.1).1
  have hD : ∀ x, md_D o E (md_v e rk) x → (fun x => E x ∨ (o ≤ x ∧ (((x - o) / 3 < e ∧ rk ((x - o) / 3) ≠ -1) ∨ (e ≤ (x - o) / 3 ∧ (x - o) / 3 < e + 2)))) x := md_DB e 2 rk
  have bN : ∀ c s, e ≤ c → c < e + 2 → s < 3 → (fun x => E x ∨ (o ≤ x ∧ (((x - o) / 3 < e ∧ rk ((x - o) / 3) ≠ -1) ∨ (e ≤ (x - o) / 3 ∧ (x - o) / 3 < e + 2)))) (md_p o c s) := fun c s h1 h2 hs => Or.inr ⟨md_po, Or.inr (by rw [md_pd hs]; exact ⟨h1, h2⟩)⟩
  have pn : ∀ c s c' s', s < 3 → s' < 3 → c ≠ c' → md_p o c s ≠ md_p o c' s' := fun c s c' s' h1 h2 n z => n ((md_pe h1 h2).mp z).1
  have ps : ∀ c s s', s < 3 → s' < 3 → s ≠ s' → md_p o c s ≠ md_p o c s' := fun c s s' h1 h2 n z => n ((md_pe h1 h2).mp z).2
  have va : md_v e rk a = 3 := by unfold md_v; rw [if_pos ha]; rcases k3a with z | z | z <;> first | exact absurd z k2a | (rw [z]; rfl)
  have vb : md_v e rk b = 1 := by unfold md_v; rw [if_pos hb, k2b]; rfl
  obtain ⟨g', eg⟩ : ∃ g' : Nat → Nat, g' = (fun c => if c < e then g c else if c = e then 2 * g a else 2 * g a + 1) := ⟨_, rfl⟩
  have hg : ∀ c, c < e → g' c = g c := fun c hc => by rw [eg]; exact if_pos hc
  have ge0 : g' e = 2 * g a := by rw [eg]; show (if e < e then _ else if e = e then _ else _) = _; rw [if_neg (by omega), if_pos rfl]
  have ge1 : g' (e + 1) = 2 * g a + 1 := by rw [eg]; show (if e + 1 < e then _ else if e + 1 = e then _ else _) = _; rw [if_neg (by omega), if_neg (by omega)]
  have new : ∀ c, e ≤ c → c < e + 2 → c = e ∨ c = e + 1 := fun c h1 h2 => by omega
  have nd : ∀ n, n / 2 = g a → ∀ c', c' < e → rk c' ≠ -1 → n ≠ g c' := by
    intro n hn c' hc' l z
    have q := ((ok.2 _ AC.1).2.2 n (fz_ds1 hn)).1
    rw [z, r1 c' hc' l] at q
    exact l q
  have hB : md_B (fun x => E x ∨ (o ≤ x ∧ (((x - o) / 3 < e ∧ rk ((x - o) / 3) ≠ -1) ∨ (e ≤ (x - o) / 3 ∧ (x - o) / 3 < e + 2)))) (md_P o U g') := by
    refine md_Bok R hg (fun c h1 h2 => ?_)
    rcases new c h1 h2 with rfl | rfl
    · refine ⟨by omega, fun c' hc' l => nd _ (by omega) c' hc' l, fun c' h3 h4 z => ?_⟩
      rcases new c' h3 h4 with rfl | rfl
      · rfl
      · omega
    · refine ⟨by omega, fun c' hc' l => nd _ (by omega) c' hc' l, fun c' h3 h4 z => ?_⟩
      rcases new c' h3 h4 with rfl | rfl
      · omega
      · rfl
  have H0 : md_HR (md_D o E (md_v e rk)) (md_P o U g') h N.2.1 := md_HC r6 (fun _ => Iff.rfl) (md_PD R hg)
  have Pa : ∀ s, s < 3 → md_P o U g' (md_p o a s) = 6 * g a + s := fun s hs => by rw [md_Pp hs, hg a ha]
  have Pb : ∀ s, s < 3 → md_P o U g' (md_p o b s) = 6 * g b + s := fun s hs => by rw [md_Pp hs, hg b hb]
  have Pe : md_P o U g' (md_p o e 0) = 12 * g a := by rw [md_Pp (by omega), ge0]; omega
  have Pf : md_P o U g' (md_p o (e + 1) 0) = 12 * g a + 6 := by rw [md_Pp (by omega), ge1]; omega
  have V0 := ((ok.2 _ AC.1).2.2 (2 * g a) (fz_ds1 (by omega))).2
  have V1 := ((ok.2 _ AC.1).2.2 (2 * g a + 1) (fz_ds1 (by omega))).2
  have x0 : N.2.1 (12 * g a) = 12 * g a + 3 := md_vg0 V0 (i := 0) (by omega)
  have y0 : N.2.1 (12 * g a + 6) = 12 * g a + 9 := md_vg1 V1 (i := 0) (by omega)
  have i0 := ok.1
  have i1 := fz_inv i0 (p := 6 * g a + 0) (q := 6 * g b + 0) (by omega)
  have i2 := fz_inv i1 (p := 6 * g a + 1) (q := 12 * g a + 3) (by omega)
  have x1 := md_FK x0 (p := 6 * g a + 0) (q := 6 * g b + 0) (by omega) (by omega) (by omega) (by omega)
  have y1 := md_FK y0 (p := 6 * g a + 0) (q := 6 * g b + 0) (by omega) (by omega) (by omega) (by omega)
  have y2 := md_FK y1 (p := 6 * g a + 1) (q := 12 * g a + 3) (by omega) (by omega) (by omega) (by omega)
  have Da : ∀ s, s < 3 → md_D o E (md_v e rk) (md_p o a s) := fun s hs => md_Dp (by rw [va]; exact hs) hs
  have Db : md_D o E (md_v e rk) (md_p o b 0) := md_Dp (by rw [vb]; omega) (by omega)
  have F1 := md_HF hB hD i0 H0 (Da 0 (by omega)) Db (pn a 0 b 0 (by omega) (by omega) hab) (Pa 0 (by omega)) (Pb 0 (by omega))
  have hD1 : ∀ x, (md_D o E (md_v e rk) x ∧ x ≠ md_p o a 0 ∧ x ≠ md_p o b 0) → (fun x => E x ∨ (o ≤ x ∧ (((x - o) / 3 < e ∧ rk ((x - o) / 3) ≠ -1) ∨ (e ≤ (x - o) / 3 ∧ (x - o) / 3 < e + 2)))) x := fun x z => hD x z.1
  have F2 := md_HM hB hD1 i1 F1.1 (p := md_p o a 1) (t := md_p o e 0) ⟨Da 1 (by omega), ps a 1 0 (by omega) (by omega) (by omega), pn a 1 b 0 (by omega) (by omega) hab⟩ (fun z => nDn e 0 (by omega) (by omega) z.1) (bN e 0 (by omega) (by omega) (by omega)) (Pa 1 (by omega)) Pe x1 (by omega)
  have hD2 : ∀ x, (((md_D o E (md_v e rk) x ∧ x ≠ md_p o a 0 ∧ x ≠ md_p o b 0) ∧ x ≠ md_p o a 1) ∨ x = md_p o e 0) → (fun x => E x ∨ (o ≤ x ∧ (((x - o) / 3 < e ∧ rk ((x - o) / 3) ≠ -1) ∨ (e ≤ (x - o) / 3 ∧ (x - o) / 3 < e + 2)))) x := fun x z => z.elim (fun z => hD1 x z.1) (fun z => z ▸ bN e 0 (by omega) (by omega) (by omega))
  have F3 := md_HM hB hD2 i2 F2.1 (p := md_p o a 2) (t := md_p o (e + 1) 0) (Or.inl ⟨⟨Da 2 (by omega), ps a 2 0 (by omega) (by omega) (by omega), pn a 2 b 0 (by omega) (by omega) hab⟩, ps a 2 1 (by omega) (by omega) (by omega)⟩) (fun z => z.elim (fun z => nDn (e + 1) 0 (by omega) (by omega) z.1.1) (fun z => pn (e + 1) 0 e 0 (by omega) (by omega) (by omega) z)) (bN (e + 1) 0 (by omega) (by omega) (by omega)) (Pa 2 (by omega)) Pf y2 (by omega)
  have est : fz_st N (g a) (g b) = (fz_kd N.1 (g a) (g b), fz_F (fz_F (fz_F N.2.1 (6 * g a + 0) (6 * g b + 0)) (6 * g a + 1) (12 * g a + 3)) (6 * g a + 2) (12 * g a + 9), N.2.2 + fz_L N.2.1 (6 * g a + 0) (6 * g b + 0) + fz_L (fz_F N.2.1 (6 * g a + 0) (6 * g b + 0)) (6 * g a + 1) (12 * g a + 3) + fz_L (fz_F (fz_F N.2.1 (6 * g a + 0) (6 * g b + 0)) (6 * g a + 1) (12 * g a + 3)) (6 * g a + 2) (12 * g a + 9)) := by
    unfold fz_st fz_ops fz_tl
    rw [A, B, k2b, if_neg k2a, if_neg k2a, if_pos rfl]
    rfl
  have eL : fz_L h (md_p o a 0) (md_p o b 0) = 1 := by unfold fz_L; rw [if_pos hh]
  have ka : (upd (upd (upd (upd rk a (-1)) b (-1)) e 2) (e + 1) 2) a = -1 := by rw [pk_un (by omega), pk_un (by omega), pk_un hab, pk_us]
  have kb : (upd (upd (upd (upd rk a (-1)) b (-1)) e 2) (e + 1) 2) b = -1 := by rw [pk_un (by omega), pk_un (by omega), pk_us]
  have kk : ∀ c, c < e → c ≠ a → c ≠ b → (upd (upd (upd (upd rk a (-1)) b (-1)) e 2) (e + 1) 2) c = rk c := fun c hc n1 n2 => by rw [pk_un (by omega), pk_un (by omega), pk_un n2, pk_un n1]
  have ke : (upd (upd (upd (upd rk a (-1)) b (-1)) e 2) (e + 1) 2) e = 2 := by rw [pk_un (by omega), pk_us]
  have kf : (upd (upd (upd (upd rk a (-1)) b (-1)) e 2) (e + 1) 2) (e + 1) = 2 := pk_us
  have ck1 : fz_ck (rk a) (rk b) = 2 := by unfold fz_ck; rw [k2b, if_neg k2a, if_neg k2a, if_pos rfl]
  have ck2 : fz_ck (rk b) (rk a) = -1 := by unfold fz_ck; rw [k2b]; split <;> rfl
  refine ⟨g', ?_, by rw [est, F1.2, F2.2, F3.2, eL]⟩
  refine md_mk R ha hb la lb AC (by omega) hg ka kb kk (fun c h1 h2 => ?_) (fun n hn _ => ?_) (fun n _ z => ?_) ?_
  · rcases new c h1 h2 with rfl | rfl
    · refine ⟨Or.inl ⟨by omega, ke.trans ck1.symm⟩, fun c' h3 h4 z => ?_⟩
      rcases new c' h3 h4 with rfl | rfl
      · rfl
      · omega
    · refine ⟨Or.inl ⟨by omega, kf.trans ck1.symm⟩, fun c' h3 h4 z => ?_⟩
      rcases new c' h3 h4 with rfl | rfl
      · omega
      · rfl
  · by_cases c : n = 2 * g a
    · exact ⟨e, by omega, by omega, by omega⟩
    · exact ⟨e + 1, by omega, by omega, by omega⟩
  · exact absurd ck2 z
  · rw [est]
    refine md_HC F3.1 (md_DE (v := md_v e rk) ?_ ?_ ?_) (fun _ _ => rfl)
    · intro x ex
      have na : ∀ s, s < 3 → x ≠ md_p o a s := fun s hs z => nEa s hs (z ▸ ex)
      have nb : ∀ s, s < 3 → x ≠ md_p o b s := fun s hs z => nEb s hs (z ▸ ex)
      exact Or.inl ⟨Or.inl ⟨⟨Or.inl ex, na 0 (by omega), nb 0 (by omega)⟩, na 1 (by omega)⟩, na 2 (by omega)⟩
    · intro x ex ox z
      rcases z with ⟨⟨z, _⟩ | z, _⟩ | z
      · exact z.1.elim ex (fun z => ox z.1)
      · exact ox (z ▸ md_po)
      · exact ox (z ▸ md_po)
    · intro c s hs ex
      rw [md_Di ex hs]
      show _ ↔ s < md_v (e + 2) _ c
      simp only [Ne, md_pe hs (show 0 < 3 by omega), md_pe hs (show 1 < 3 by omega), md_pe hs (show 2 < 3 by omega)]
      have vv : md_v (e + 2) (upd (upd (upd (upd rk a (-1)) b (-1)) e 2) (e + 1) 2) c = if c = a then 0 else if c = b then 0 else if c = e then 1 else if c = e + 1 then 1 else md_v e rk c := by
        by_cases c1 : c = a
        · rw [if_pos c1, c1]; unfold md_v; rw [if_pos (by omega), ka]; rfl
        · rw [if_neg c1]
          by_cases c2 : c = b
          · rw [if_pos c2, c2]; unfold md_v; rw [if_pos (by omega), kb]; rfl
          · rw [if_neg c2]
            by_cases c3 : c = e
            · rw [if_pos c3, c3]; unfold md_v; rw [if_pos (by omega), ke]; rfl
            · rw [if_neg c3]
              by_cases c4 : c = e + 1
              · rw [if_pos c4, c4]; unfold md_v; rw [if_pos (by omega), kf]; rfl
              · rw [if_neg c4]
                unfold md_v
                by_cases c5 : c < e
                · rw [if_pos (by omega), if_pos c5, kk c c5 c1 c2]
                · rw [if_neg (by omega), if_neg c5]
      rw [vv]
      by_cases c1 : c = a
      · subst c1
        rw [if_pos rfl, va]; omega
      · rw [if_neg c1]
        by_cases c2 : c = b
        · subst c2
          rw [if_pos rfl, vb]; omega
        · rw [if_neg c2]
          by_cases c3 : c = e
          · subst c3
            rw [if_pos rfl, vn c (by omega)]; omega
          · rw [if_neg c3]
            by_cases c4 : c = e + 1
            · subst c4
              rw [if_pos rfl, vn (e + 1) (by omega)]; omega
            · rw [if_neg c4]; simp only [c1, c2, c3, c4, false_and, not_false_eq_true, and_true, or_false]
theorem fz_rc {p q L : Nat} {l : List (Nat × Nat)} {w : Nat → Nat} : fz_run ((p, q) :: l) (w, L) = fz_run l (fz_F w p q, L + fz_L w p q) := rfl
set_option maxHeartbeats 16000000 in
theorem md_cp {o : Nat} {E : Nat → Prop} {U : Nat → Nat} {e : Nat} {rk : Nat → Int32} {h g : Nat → Nat} {N : fz_N} (R : md_R o E U e rk h g N) {a b : Nat} (ha : a < e) (hb : b < e) (la : rk a ≠ -1) (lb : rk b ≠ -1) (hab : a ≠ b)
    (hh : h (md_p o a 0) = md_p o b 0) (k0 : rk a = 0) (k1 : rk b = 1) :
    ∃ g', md_R o E U (e + 4) (upd (upd (upd (upd (upd (upd rk a (-1)) b (-1)) e 1) (e + 1) 1) (e + 2) 0) (e + 3) 0) (md_J (md_J (md_J (md_J (md_M (md_M (md_M (md_M (fz_F h (md_p o a 0) (md_p o b 0)) (md_p o a 1) (md_p o e 0)) (md_p o a 2) (md_p o (e + 1) 0)) (md_p o b 1) (md_p o (e + 2) 0)) (md_p o b 2) (md_p o (e + 3) 0)) (md_p o e 1) (md_p o (e + 2) 1)) (md_p o e 2) (md_p o (e + 3) 1)) (md_p o (e + 1) 1) (md_p o (e + 2) 2)) (md_p o (e + 1) 2) (md_p o (e + 3) 2)) g' (fz_st N (g a) (g b)) ∧ (fz_st N (g a) (g b)).2.2 = N.2.2 + 1 := by
  obtain ⟨AC, k3a, k3b⟩ := md_face R ha hb la lb hab hh
  have R' := R
  obtain ⟨ok, ⟨k6, k7⟩, r1, r2, r3, r4, r5, r6⟩ := R'
  have A := r1 a ha la
  have B := r1 b hb lb
  have nba : b ≠ a := fun z => hab z.symm
  have hE : ∀ c s, s < 3 → E (md_p o c s) → c < e ∧ rk c = -1 := by
    intro c s hs z
    have q := (r4 _ z).1 md_po
    rw [md_pd hs] at q
    exact q
  have nEa : ∀ s, s < 3 → ¬ E (md_p o a s) := fun s hs z => la (hE a s hs z).2
  have nEb : ∀ s, s < 3 → ¬ E (md_p o b s) := fun s hs z => lb (hE b s hs z).2
  have nEn : ∀ c s, e ≤ c → s < 3 → ¬ E (md_p o c s) := fun c s hc hs z => by have := (hE c s hs z).1; omega
  have vn : ∀ c, e ≤ c → md_v e rk c = 0 := fun c hc => by unfold md_v; rw [if_neg (by omega)]
  have nDn : ∀ c s, e ≤ c → s < 3 → ¬ md_D o E (md_v e rk) (md_p o c s) := fun c s hc hs => md_Dn (nEn c s hc hs) (by rw [vn c hc]; omega) hs
  have sAB := fz_lsep ok AC.1 AC.2.1 AC.2.2.1
  unfold fz_sep at sAB
  have a16 := (ok.2 _ AC.1).1
  have b16 := (ok.2 _ AC.2.1).1
  have hD : ∀ x, md_D o E (md_v e rk) x → (fun x => E x ∨ (o ≤ x ∧ (((x - o) / 3 < e ∧ rk ((x - o) / 3) ≠ -1) ∨ (e ≤ (x - o) / 3 ∧ (x - o) / 3 < e + 4)))) x := md_DB e 4 rk
  have bN : ∀ c s, e ≤ c → c < e + 4 → s < 3 → (fun x => E x ∨ (o ≤ x ∧ (((x - o) / 3 < e ∧ rk ((x - o) / 3) ≠ -1) ∨ (e ≤ (x - o) / 3 ∧ (x - o) / 3 < e + 4)))) (md_p o c s) := fun c s h1 h2 hs => Or.inr ⟨md_po, Or.inr (by rw [md_pd hs]; exact ⟨h1, h2⟩)⟩
  have pn : ∀ c s c' s', s < 3 → s' < 3 → c ≠ c' → md_p o c s ≠ md_p o c' s' := fun c s c' s' h1 h2 n z => n ((md_pe h1 h2).mp z).1
  have ps : ∀ c s s', s < 3 → s' < 3 → s ≠ s' → md_p o c s ≠ md_p o c s' := fun c s s' h1 h2 n z => n ((md_pe h1 h2).mp z).2
  have va : md_v e rk a = 3 := by unfold md_v; rw [if_pos ha, k0]; rfl
  have vb : md_v e rk b = 3 := by unfold md_v; rw [if_pos hb, k1]; rfl
  obtain ⟨g', eg⟩ : ∃ g' : Nat → Nat, g' = (fun c => if c < e then g c else if c = e then 2 * g b else if c = e + 1 then 2 * g b + 1 else if c = e + 2 then 2 * g a else 2 * g a + 1) := ⟨_, rfl⟩
  have hg : ∀ c, c < e → g' c = g c := fun c hc => by rw [eg]; exact if_pos hc
  have gE0 : g' e = 2 * g b := by rw [eg]; dsimp only; rw [if_neg (by omega), if_pos rfl]
  have gE1 : g' (e + 1) = 2 * g b + 1 := by rw [eg]; dsimp only; rw [if_neg (by omega), if_neg (by omega), if_pos rfl]
  have gE2 : g' (e + 2) = 2 * g a := by rw [eg]; dsimp only; rw [if_neg (by omega), if_neg (by omega), if_neg (by omega), if_pos rfl]
  have gE3 : g' (e + 3) = 2 * g a + 1 := by rw [eg]; dsimp only; rw [if_neg (by omega), if_neg (by omega), if_neg (by omega), if_neg (by omega)]
  clear eg
  have new : ∀ c, e ≤ c → c < e + 4 → c = e ∨ c = e + 1 ∨ c = e + 2 ∨ c = e + 3 := fun c h1 h2 => by omega
  have nda : ∀ n, n / 2 = g a → ∀ c', c' < e → rk c' ≠ -1 → n ≠ g c' := by
    intro n hn c' hc' l z
    have q := ((ok.2 _ AC.1).2.2 n (fz_ds1 hn)).1
    rw [z, r1 c' hc' l] at q
    exact l q
  have ndb : ∀ n, n / 2 = g b → ∀ c', c' < e → rk c' ≠ -1 → n ≠ g c' := by
    intro n hn c' hc' l z
    have q := ((ok.2 _ AC.2.1).2.2 n (fz_ds1 hn)).1
    rw [z, r1 c' hc' l] at q
    exact l q
  have nin : ∀ c, e ≤ c → c < e + 4 → ∀ c', e ≤ c' → c' < e + 4 → g' c = g' c' → c = c' := by
    intro c h1 h2 c' h3 h4 z
    rcases new c h1 h2 with rfl | rfl | rfl | rfl <;> rcases new c' h3 h4 with z2 | z2 | z2 | z2 <;> first | (subst z2; rfl) | exact z2.symm | (rw [z2] at z; omega)
  have hB : md_B (fun x => E x ∨ (o ≤ x ∧ (((x - o) / 3 < e ∧ rk ((x - o) / 3) ≠ -1) ∨ (e ≤ (x - o) / 3 ∧ (x - o) / 3 < e + 4)))) (md_P o U g') := by
    refine md_Bok R hg (fun c h1 h2 => ?_)
    refine ⟨?_, ?_, fun c' h3 h4 z => nin c h1 h2 c' h3 h4 z⟩
    · rcases new c h1 h2 with rfl | rfl | rfl | rfl <;> omega
    · rcases new c h1 h2 with rfl | rfl | rfl | rfl
      · exact ndb _ (by omega)
      · exact ndb _ (by omega)
      · exact nda _ (by omega)
      · exact nda _ (by omega)
  have H0 : md_HR (fun x => md_D o E (md_v e rk) x) (md_P o U g') h N.2.1 := md_HC r6 (fun _ => Iff.rfl) (md_PD R hg)
  have Pa : ∀ s, s < 3 → md_P o U g' (md_p o a s) = 6 * g a + s := fun s hs => by rw [md_Pp hs, hg a ha]
  have Pb : ∀ s, s < 3 → md_P o U g' (md_p o b s) = 6 * g b + s := fun s hs => by rw [md_Pp hs, hg b hb]
  have Va0 := ((ok.2 _ AC.1).2.2 (2 * g a) (fz_ds1 (by omega))).2
  have Va1 := ((ok.2 _ AC.1).2.2 (2 * g a + 1) (fz_ds1 (by omega))).2
  have Vb0 := ((ok.2 _ AC.2.1).2.2 (2 * g b) (fz_ds1 (by omega))).2
  have Vb1 := ((ok.2 _ AC.2.1).2.2 (2 * g b + 1) (fz_ds1 (by omega))).2
  have Da : ∀ s, s < 3 → md_D o E (md_v e rk) (md_p o a s) := fun s hs => md_Dp (by rw [va]; exact hs) hs
  have Db : ∀ s, s < 3 → md_D o E (md_v e rk) (md_p o b s) := fun s hs => md_Dp (by rw [vb]; exact hs) hs
  obtain ⟨w1, hw1⟩ : ∃ w, w = fz_F N.2.1 (6 * g a + 0) (6 * g b + 0) := ⟨_, rfl⟩
  obtain ⟨w2, hw2⟩ : ∃ w, w = fz_F w1 (6 * g a + 1) (12 * g b + 3) := ⟨_, rfl⟩
  obtain ⟨w3, hw3⟩ : ∃ w, w = fz_F w2 (6 * g a + 2) (12 * g b + 9) := ⟨_, rfl⟩
  obtain ⟨w4, hw4⟩ : ∃ w, w = fz_F w3 (6 * g b + 1) (12 * g a + 3) := ⟨_, rfl⟩
  obtain ⟨w5, hw5⟩ : ∃ w, w = fz_F w4 (6 * g b + 2) (12 * g a + 9) := ⟨_, rfl⟩
  obtain ⟨w6, hw6⟩ : ∃ w, w = fz_F w5 (12 * g b + 4) (12 * g a + 4) := ⟨_, rfl⟩
  obtain ⟨w7, hw7⟩ : ∃ w, w = fz_F w6 (12 * g b + 5) (12 * g a + 10) := ⟨_, rfl⟩
  obtain ⟨w8, hw8⟩ : ∃ w, w = fz_F w7 (12 * g b + 10) (12 * g a + 5) := ⟨_, rfl⟩
  obtain ⟨w9, hw9⟩ : ∃ w, w = fz_F w8 (12 * g b + 11) (12 * g a + 11) := ⟨_, rfl⟩
  have i0 : fz_I N.2.1 := ok.1
  have i1 : fz_I w1 := by rw [hw1]; exact fz_inv i0 (by omega)
  have i2 : fz_I w2 := by rw [hw2]; exact fz_inv i1 (by omega)
  have i3 : fz_I w3 := by rw [hw3]; exact fz_inv i2 (by omega)
  have i4 : fz_I w4 := by rw [hw4]; exact fz_inv i3 (by omega)
  have i5 : fz_I w5 := by rw [hw5]; exact fz_inv i4 (by omega)
  have i6 : fz_I w6 := by rw [hw6]; exact fz_inv i5 (by omega)
  have i7 : fz_I w7 := by rw [hw7]; exact fz_inv i6 (by omega)
  have i8 : fz_I w8 := by rw [hw8]; exact fz_inv i7 (by omega)
  have i9 : fz_I w9 := by rw [hw9]; exact fz_inv i8 (by omega)
  have f0_E0_0 : N.2.1 (12 * g b) = 12 * g b + 3 := md_vg0 Vb0 (i := 0) (by omega)
  have f1_E0_0 : w1 (12 * g b) = 12 * g b + 3 := by rw [hw1]; exact md_FK f0_E0_0 (by omega) (by omega) (by omega) (by omega)
  have f0_E0_1 : N.2.1 (12 * g b + 1) = 12 * g b + 4 := md_vg0 Vb0 (i := 1) (by omega)
  have f1_E0_1 : w1 (12 * g b + 1) = 12 * g b + 4 := by rw [hw1]; exact md_FK f0_E0_1 (by omega) (by omega) (by omega) (by omega)
  have f2_E0_1 : w2 (12 * g b + 1) = 12 * g b + 4 := by rw [hw2]; exact md_FK f1_E0_1 (by omega) (by omega) (by omega) (by omega)
  have f3_E0_1 : w3 (12 * g b + 1) = 12 * g b + 4 := by rw [hw3]; exact md_FK f2_E0_1 (by omega) (by omega) (by omega) (by omega)
  have f4_E0_1 : w4 (12 * g b + 1) = 12 * g b + 4 := by rw [hw4]; exact md_FK f3_E0_1 (by omega) (by omega) (by omega) (by omega)
  have f5_E0_1 : w5 (12 * g b + 1) = 12 * g b + 4 := by rw [hw5]; exact md_FK f4_E0_1 (by omega) (by omega) (by omega) (by omega)
  have f0_E0_2 : N.2.1 (12 * g b + 2) = 12 * g b + 5 := md_vg0 Vb0 (i := 2) (by omega)
  have f1_E0_2 : w1 (12 * g b + 2) = 12 * g b + 5 := by rw [hw1]; exact md_FK f0_E0_2 (by omega) (by omega) (by omega) (by omega)
  have f2_E0_2 : w2 (12 * g b + 2) = 12 * g b + 5 := by rw [hw2]; exact md_FK f1_E0_2 (by omega) (by omega) (by omega) (by omega)
  have f3_E0_2 : w3 (12 * g b + 2) = 12 * g b + 5 := by rw [hw3]; exact md_FK f2_E0_2 (by omega) (by omega) (by omega) (by omega)
  have f4_E0_2 : w4 (12 * g b + 2) = 12 * g b + 5 := by rw [hw4]; exact md_FK f3_E0_2 (by omega) (by omega) (by omega) (by omega)
  have f5_E0_2 : w5 (12 * g b + 2) = 12 * g b + 5 := by rw [hw5]; exact md_FK f4_E0_2 (by omega) (by omega) (by omega) (by omega)
  have f6_E0_2 : w6 (12 * g b + 2) = 12 * g b + 5 := by rw [hw6]; exact md_FK f5_E0_2 (by omega) (by omega) (by omega) (by omega)
  have f0_E1_0 : N.2.1 (12 * g b + 6) = 12 * g b + 9 := md_vg1 Vb1 (i := 0) (by omega)
  have f1_E1_0 : w1 (12 * g b + 6) = 12 * g b + 9 := by rw [hw1]; exact md_FK f0_E1_0 (by omega) (by omega) (by omega) (by omega)
  have f2_E1_0 : w2 (12 * g b + 6) = 12 * g b + 9 := by rw [hw2]; exact md_FK f1_E1_0 (by omega) (by omega) (by omega) (by omega)
  have f0_E1_1 : N.2.1 (12 * g b + 7) = 12 * g b + 10 := md_vg1 Vb1 (i := 1) (by omega)
  have f1_E1_1 : w1 (12 * g b + 7) = 12 * g b + 10 := by rw [hw1]; exact md_FK f0_E1_1 (by omega) (by omega) (by omega) (by omega)
  have f2_E1_1 : w2 (12 * g b + 7) = 12 * g b + 10 := by rw [hw2]; exact md_FK f1_E1_1 (by omega) (by omega) (by omega) (by omega)
  have f3_E1_1 : w3 (12 * g b + 7) = 12 * g b + 10 := by rw [hw3]; exact md_FK f2_E1_1 (by omega) (by omega) (by omega) (by omega)
  have f4_E1_1 : w4 (12 * g b + 7) = 12 * g b + 10 := by rw [hw4]; exact md_FK f3_E1_1 (by omega) (by omega) (by omega) (by omega)
  have f5_E1_1 : w5 (12 * g b + 7) = 12 * g b + 10 := by rw [hw5]; exact md_FK f4_E1_1 (by omega) (by omega) (by omega) (by omega)
  have f6_E1_1 : w6 (12 * g b + 7) = 12 * g b + 10 := by rw [hw6]; exact md_FK f5_E1_1 (by omega) (by omega) (by omega) (by omega)
  have f7_E1_1 : w7 (12 * g b + 7) = 12 * g b + 10 := by rw [hw7]; exact md_FK f6_E1_1 (by omega) (by omega) (by omega) (by omega)
  have f0_E1_2 : N.2.1 (12 * g b + 8) = 12 * g b + 11 := md_vg1 Vb1 (i := 2) (by omega)
  have f1_E1_2 : w1 (12 * g b + 8) = 12 * g b + 11 := by rw [hw1]; exact md_FK f0_E1_2 (by omega) (by omega) (by omega) (by omega)
  have f2_E1_2 : w2 (12 * g b + 8) = 12 * g b + 11 := by rw [hw2]; exact md_FK f1_E1_2 (by omega) (by omega) (by omega) (by omega)
  have f3_E1_2 : w3 (12 * g b + 8) = 12 * g b + 11 := by rw [hw3]; exact md_FK f2_E1_2 (by omega) (by omega) (by omega) (by omega)
  have f4_E1_2 : w4 (12 * g b + 8) = 12 * g b + 11 := by rw [hw4]; exact md_FK f3_E1_2 (by omega) (by omega) (by omega) (by omega)
  have f5_E1_2 : w5 (12 * g b + 8) = 12 * g b + 11 := by rw [hw5]; exact md_FK f4_E1_2 (by omega) (by omega) (by omega) (by omega)
  have f6_E1_2 : w6 (12 * g b + 8) = 12 * g b + 11 := by rw [hw6]; exact md_FK f5_E1_2 (by omega) (by omega) (by omega) (by omega)
  have f7_E1_2 : w7 (12 * g b + 8) = 12 * g b + 11 := by rw [hw7]; exact md_FK f6_E1_2 (by omega) (by omega) (by omega) (by omega)
  have f8_E1_2 : w8 (12 * g b + 8) = 12 * g b + 11 := by rw [hw8]; exact md_FK f7_E1_2 (by omega) (by omega) (by omega) (by omega)
  have f0_E2_0 : N.2.1 (12 * g a) = 12 * g a + 3 := md_vg0 Va0 (i := 0) (by omega)
  have f1_E2_0 : w1 (12 * g a) = 12 * g a + 3 := by rw [hw1]; exact md_FK f0_E2_0 (by omega) (by omega) (by omega) (by omega)
  have f2_E2_0 : w2 (12 * g a) = 12 * g a + 3 := by rw [hw2]; exact md_FK f1_E2_0 (by omega) (by omega) (by omega) (by omega)
  have f3_E2_0 : w3 (12 * g a) = 12 * g a + 3 := by rw [hw3]; exact md_FK f2_E2_0 (by omega) (by omega) (by omega) (by omega)
  have f0_E2_1 : N.2.1 (12 * g a + 1) = 12 * g a + 4 := md_vg0 Va0 (i := 1) (by omega)
  have f1_E2_1 : w1 (12 * g a + 1) = 12 * g a + 4 := by rw [hw1]; exact md_FK f0_E2_1 (by omega) (by omega) (by omega) (by omega)
  have f2_E2_1 : w2 (12 * g a + 1) = 12 * g a + 4 := by rw [hw2]; exact md_FK f1_E2_1 (by omega) (by omega) (by omega) (by omega)
  have f3_E2_1 : w3 (12 * g a + 1) = 12 * g a + 4 := by rw [hw3]; exact md_FK f2_E2_1 (by omega) (by omega) (by omega) (by omega)
  have f4_E2_1 : w4 (12 * g a + 1) = 12 * g a + 4 := by rw [hw4]; exact md_FK f3_E2_1 (by omega) (by omega) (by omega) (by omega)
  have f5_E2_1 : w5 (12 * g a + 1) = 12 * g a + 4 := by rw [hw5]; exact md_FK f4_E2_1 (by omega) (by omega) (by omega) (by omega)
  have f0_E2_2 : N.2.1 (12 * g a + 2) = 12 * g a + 5 := md_vg0 Va0 (i := 2) (by omega)
  have f1_E2_2 : w1 (12 * g a + 2) = 12 * g a + 5 := by rw [hw1]; exact md_FK f0_E2_2 (by omega) (by omega) (by omega) (by omega)
  have f2_E2_2 : w2 (12 * g a + 2) = 12 * g a + 5 := by rw [hw2]; exact md_FK f1_E2_2 (by omega) (by omega) (by omega) (by omega)
  have f3_E2_2 : w3 (12 * g a + 2) = 12 * g a + 5 := by rw [hw3]; exact md_FK f2_E2_2 (by omega) (by omega) (by omega) (by omega)
  have f4_E2_2 : w4 (12 * g a + 2) = 12 * g a + 5 := by rw [hw4]; exact md_FK f3_E2_2 (by omega) (by omega) (by omega) (by omega)
  have f5_E2_2 : w5 (12 * g a + 2) = 12 * g a + 5 := by rw [hw5]; exact md_FK f4_E2_2 (by omega) (by omega) (by omega) (by omega)
  have f6_E2_2 : w6 (12 * g a + 2) = 12 * g a + 5 := by rw [hw6]; exact md_FK f5_E2_2 (by omega) (by omega) (by omega) (by omega)
  have f7_E2_2 : w7 (12 * g a + 2) = 12 * g a + 5 := by rw [hw7]; exact md_FK f6_E2_2 (by omega) (by omega) (by omega) (by omega)
  have f0_E3_0 : N.2.1 (12 * g a + 6) = 12 * g a + 9 := md_vg1 Va1 (i := 0) (by omega)
  have f1_E3_0 : w1 (12 * g a + 6) = 12 * g a + 9 := by rw [hw1]; exact md_FK f0_E3_0 (by omega) (by omega) (by omega) (by omega)
  have f2_E3_0 : w2 (12 * g a + 6) = 12 * g a + 9 := by rw [hw2]; exact md_FK f1_E3_0 (by omega) (by omega) (by omega) (by omega)
  have f3_E3_0 : w3 (12 * g a + 6) = 12 * g a + 9 := by rw [hw3]; exact md_FK f2_E3_0 (by omega) (by omega) (by omega) (by omega)
  have f4_E3_0 : w4 (12 * g a + 6) = 12 * g a + 9 := by rw [hw4]; exact md_FK f3_E3_0 (by omega) (by omega) (by omega) (by omega)
  have f0_E3_1 : N.2.1 (12 * g a + 7) = 12 * g a + 10 := md_vg1 Va1 (i := 1) (by omega)
  have f1_E3_1 : w1 (12 * g a + 7) = 12 * g a + 10 := by rw [hw1]; exact md_FK f0_E3_1 (by omega) (by omega) (by omega) (by omega)
  have f2_E3_1 : w2 (12 * g a + 7) = 12 * g a + 10 := by rw [hw2]; exact md_FK f1_E3_1 (by omega) (by omega) (by omega) (by omega)
  have f3_E3_1 : w3 (12 * g a + 7) = 12 * g a + 10 := by rw [hw3]; exact md_FK f2_E3_1 (by omega) (by omega) (by omega) (by omega)
  have f4_E3_1 : w4 (12 * g a + 7) = 12 * g a + 10 := by rw [hw4]; exact md_FK f3_E3_1 (by omega) (by omega) (by omega) (by omega)
  have f5_E3_1 : w5 (12 * g a + 7) = 12 * g a + 10 := by rw [hw5]; exact md_FK f4_E3_1 (by omega) (by omega) (by omega) (by omega)
  have f6_E3_1 : w6 (12 * g a + 7) = 12 * g a + 10 := by rw [hw6]; exact md_FK f5_E3_1 (by omega) (by omega) (by omega) (by omega)
  have f0_E3_2 : N.2.1 (12 * g a + 8) = 12 * g a + 11 := md_vg1 Va1 (i := 2) (by omega)
  have f1_E3_2 : w1 (12 * g a + 8) = 12 * g a + 11 := by rw [hw1]; exact md_FK f0_E3_2 (by omega) (by omega) (by omega) (by omega)
  have f2_E3_2 : w2 (12 * g a + 8) = 12 * g a + 11 := by rw [hw2]; exact md_FK f1_E3_2 (by omega) (by omega) (by omega) (by omega)
  have f3_E3_2 : w3 (12 * g a + 8) = 12 * g a + 11 := by rw [hw3]; exact md_FK f2_E3_2 (by omega) (by omega) (by omega) (by omega)
  have f4_E3_2 : w4 (12 * g a + 8) = 12 * g a + 11 := by rw [hw4]; exact md_FK f3_E3_2 (by omega) (by omega) (by omega) (by omega)
  have f5_E3_2 : w5 (12 * g a + 8) = 12 * g a + 11 := by rw [hw5]; exact md_FK f4_E3_2 (by omega) (by omega) (by omega) (by omega)
  have f6_E3_2 : w6 (12 * g a + 8) = 12 * g a + 11 := by rw [hw6]; exact md_FK f5_E3_2 (by omega) (by omega) (by omega) (by omega)
  have f7_E3_2 : w7 (12 * g a + 8) = 12 * g a + 11 := by rw [hw7]; exact md_FK f6_E3_2 (by omega) (by omega) (by omega) (by omega)
  have f8_E3_2 : w8 (12 * g a + 8) = 12 * g a + 11 := by rw [hw8]; exact md_FK f7_E3_2 (by omega) (by omega) (by omega) (by omega)
  have PE0_0 : md_P o U g' (md_p o e 0) = 12 * g b := by rw [md_Pp (by omega), gE0]; omega
  have PE0_1 : md_P o U g' (md_p o e 1) = 12 * g b + 1 := by rw [md_Pp (by omega), gE0]; omega
  have PE0_2 : md_P o U g' (md_p o e 2) = 12 * g b + 2 := by rw [md_Pp (by omega), gE0]; omega
  have PE1_0 : md_P o U g' (md_p o (e + 1) 0) = 12 * g b + 6 := by rw [md_Pp (by omega), gE1]; omega
  have PE1_1 : md_P o U g' (md_p o (e + 1) 1) = 12 * g b + 7 := by rw [md_Pp (by omega), gE1]; omega
  have PE1_2 : md_P o U g' (md_p o (e + 1) 2) = 12 * g b + 8 := by rw [md_Pp (by omega), gE1]; omega
  have PE2_0 : md_P o U g' (md_p o (e + 2) 0) = 12 * g a := by rw [md_Pp (by omega), gE2]; omega
  have PE2_1 : md_P o U g' (md_p o (e + 2) 1) = 12 * g a + 1 := by rw [md_Pp (by omega), gE2]; omega
  have PE2_2 : md_P o U g' (md_p o (e + 2) 2) = 12 * g a + 2 := by rw [md_Pp (by omega), gE2]; omega
  have PE3_0 : md_P o U g' (md_p o (e + 3) 0) = 12 * g a + 6 := by rw [md_Pp (by omega), gE3]; omega
  have PE3_1 : md_P o U g' (md_p o (e + 3) 1) = 12 * g a + 7 := by rw [md_Pp (by omega), gE3]; omega
  have PE3_2 : md_P o U g' (md_p o (e + 3) 2) = 12 * g a + 8 := by rw [md_Pp (by omega), gE3]; omega
  have K1 : md_HR (fun x => (md_D o E (md_v e rk) x ∧ x ≠ (md_p o a 0) ∧ x ≠ (md_p o b 0))) (md_P o U g') (fz_F h (md_p o a 0) (md_p o b 0)) w1 ∧ fz_L N.2.1 (6 * g a + 0) (6 * g b + 0) = fz_L h (md_p o a 0) (md_p o b 0) := by
    rw [hw1]
    exact md_HF hB hD i0 H0 (Da 0 (by omega)) (Db 0 (by omega)) (pn a 0 b 0 (by omega) (by omega) hab) (Pa 0 (by omega)) (Pb 0 (by omega))
  have G1 := K1.1
  have hD1 : ∀ x, (md_D o E (md_v e rk) x ∧ x ≠ (md_p o a 0) ∧ x ≠ (md_p o b 0)) → (fun x => E x ∨ (o ≤ x ∧ (((x - o) / 3 < e ∧ rk ((x - o) / 3) ≠ -1) ∨ (e ≤ (x - o) / 3 ∧ (x - o) / 3 < e + 4)))) x := fun x z => hD x z.1
  have K2 : md_HR (fun x => (((md_D o E (md_v e rk) x ∧ x ≠ (md_p o a 0) ∧ x ≠ (md_p o b 0)) ∧ x ≠ (md_p o a 1)) ∨ x = (md_p o e 0))) (md_P o U g') (md_M (fz_F h (md_p o a 0) (md_p o b 0)) (md_p o a 1) (md_p o e 0)) w2 ∧ fz_L w1 (6 * g a + 1) (12 * g b + 3) = 0 := by
    rw [hw2]
    exact md_HM hB hD1 i1 G1 (p := (md_p o a 1)) (t := (md_p o e 0)) ⟨(Da 1 (by omega)), (ps a 1 0 (by omega) (by omega) (by omega)), (pn a 1 b 0 (by omega) (by omega) (by omega))⟩ (fun z => (nDn e 0 (by omega) (by omega) z.1)) (bN e 0 (by omega) (by omega) (by omega)) (Pa 1 (by omega)) PE0_0 f1_E0_0 (by omega)
  have G2 := K2.1
  have hD2 : ∀ x, (((md_D o E (md_v e rk) x ∧ x ≠ (md_p o a 0) ∧ x ≠ (md_p o b 0)) ∧ x ≠ (md_p o a 1)) ∨ x = (md_p o e 0)) → (fun x => E x ∨ (o ≤ x ∧ (((x - o) / 3 < e ∧ rk ((x - o) / 3) ≠ -1) ∨ (e ≤ (x - o) / 3 ∧ (x - o) / 3 < e + 4)))) x := fun x z => z.elim (fun z => hD1 x z.1) (fun z => z ▸ bN e 0 (by omega) (by omega) (by omega))
  have K3 : md_HR (fun x => (((((md_D o E (md_v e rk) x ∧ x ≠ (md_p o a 0) ∧ x ≠ (md_p o b 0)) ∧ x ≠ (md_p o a 1)) ∨ x = (md_p o e 0)) ∧ x ≠ (md_p o a 2)) ∨ x = (md_p o (e + 1) 0))) (md_P o U g') (md_M (md_M (fz_F h (md_p o a 0) (md_p o b 0)) (md_p o a 1) (md_p o e 0)) (md_p o a 2) (md_p o (e + 1) 0)) w3 ∧ fz_L w2 (6 * g a + 2) (12 * g b + 9) = 0 := by
    rw [hw3]
    exact md_HM hB hD2 i2 G2 (p := (md_p o a 2)) (t := (md_p o (e + 1) 0)) (Or.inl ⟨⟨(Da 2 (by omega)), (ps a 2 0 (by omega) (by omega) (by omega)), (pn a 2 b 0 (by omega) (by omega) (by omega))⟩, (ps a 2 1 (by omega) (by omega) (by omega))⟩) (fun z => (z.elim (fun z2 => (nDn (e + 1) 0 (by omega) (by omega) z2.1.1)) (fun z2 => (pn (e + 1) 0 e 0 (by omega) (by omega) (by omega) z2)))) (bN (e + 1) 0 (by omega) (by omega) (by omega)) (Pa 2 (by omega)) PE1_0 f2_E1_0 (by omega)
  have G3 := K3.1
  have hD3 : ∀ x, (((((md_D o E (md_v e rk) x ∧ x ≠ (md_p o a 0) ∧ x ≠ (md_p o b 0)) ∧ x ≠ (md_p o a 1)) ∨ x = (md_p o e 0)) ∧ x ≠ (md_p o a 2)) ∨ x = (md_p o (e + 1) 0)) → (fun x => E x ∨ (o ≤ x ∧ (((x - o) / 3 < e ∧ rk ((x - o) / 3) ≠ -1) ∨ (e ≤ (x - o) / 3 ∧ (x - o) / 3 < e + 4)))) x := fun x z => z.elim (fun z => hD2 x z.1) (fun z => z ▸ bN (e + 1) 0 (by omega) (by omega) (by omega))
  have K4 : md_HR (fun x => (((((((md_D o E (md_v e rk) x ∧ x ≠ (md_p o a 0) ∧ x ≠ (md_p o b 0)) ∧ x ≠ (md_p o a 1)) ∨ x = (md_p o e 0)) ∧ x ≠ (md_p o a 2)) ∨ x = (md_p o (e + 1) 0)) ∧ x ≠ (md_p o b 1)) ∨ x = (md_p o (e + 2) 0))) (md_P o U g') (md_M (md_M (md_M (fz_F h (md_p o a 0) (md_p o b 0)) (md_p o a 1) (md_p o e 0)) (md_p o a 2) (md_p o (e + 1) 0)) (md_p o b 1) (md_p o (e + 2) 0)) w4 ∧ fz_L w3 (6 * g b + 1) (12 * g a + 3) = 0 := by
    rw [hw4]
    exact md_HM hB hD3 i3 G3 (p := (md_p o b 1)) (t := (md_p o (e + 2) 0)) (Or.inl ⟨(Or.inl ⟨⟨(Db 1 (by omega)), (pn b 1 a 0 (by omega) (by omega) (by omega)), (ps b 1 0 (by omega) (by omega) (by omega))⟩, (pn b 1 a 1 (by omega) (by omega) (by omega))⟩), (pn b 1 a 2 (by omega) (by omega) (by omega))⟩) (fun z => (z.elim (fun z3 => (z3.1.elim (fun z2 => (nDn (e + 2) 0 (by omega) (by omega) z2.1.1)) (fun z2 => (pn (e + 2) 0 e 0 (by omega) (by omega) (by omega) z2)))) (fun z3 => (pn (e + 2) 0 (e + 1) 0 (by omega) (by omega) (by omega) z3)))) (bN (e + 2) 0 (by omega) (by omega) (by omega)) (Pb 1 (by omega)) PE2_0 f3_E2_0 (by omega)
  have G4 := K4.1
  have hD4 : ∀ x, (((((((md_D o E (md_v e rk) x ∧ x ≠ (md_p o a 0) ∧ x ≠ (md_p o b 0)) ∧ x ≠ (md_p o a 1)) ∨ x = (md_p o e 0)) ∧ x ≠ (md_p o a 2)) ∨ x = (md_p o (e + 1) 0)) ∧ x ≠ (md_p o b 1)) ∨ x = (md_p o (e + 2) 0)) → (fun x => E x ∨ (o ≤ x ∧ (((x - o) / 3 < e ∧ rk ((x - o) / 3) ≠ -1) ∨ (e ≤ (x - o) / 3 ∧ (x - o) / 3 < e + 4)))) x := fun x z => z.elim (fun z => hD3 x z.1) (fun z => z ▸ bN (e + 2) 0 (by omega) (by omega) (by omega))
  have K5 : md_HR (fun x => (((((((((md_D o E (md_v e rk) x ∧ x ≠ (md_p o a 0) ∧ x ≠ (md_p o b 0)) ∧ x ≠ (md_p o a 1)) ∨ x = (md_p o e 0)) ∧ x ≠ (md_p o a 2)) ∨ x = (md_p o (e + 1) 0)) ∧ x ≠ (md_p o b 1)) ∨ x = (md_p o (e + 2) 0)) ∧ x ≠ (md_p o b 2)) ∨ x = (md_p o (e + 3) 0))) (md_P o U g') (md_M (md_M (md_M (md_M (fz_F h (md_p o a 0) (md_p o b 0)) (md_p o a 1) (md_p o e 0)) (md_p o a 2) (md_p o (e + 1) 0)) (md_p o b 1) (md_p o (e + 2) 0)) (md_p o b 2) (md_p o (e + 3) 0)) w5 ∧ fz_L w4 (6 * g b + 2) (12 * g a + 9) = 0 := by
    rw [hw5]
    exact md_HM hB hD4 i4 G4 (p := (md_p o b 2)) (t := (md_p o (e + 3) 0)) (Or.inl ⟨(Or.inl ⟨(Or.inl ⟨⟨(Db 2 (by omega)), (pn b 2 a 0 (by omega) (by omega) (by omega)), (ps b 2 0 (by omega) (by omega) (by omega))⟩, (pn b 2 a 1 (by omega) (by omega) (by omega))⟩), (pn b 2 a 2 (by omega) (by omega) (by omega))⟩), (ps b 2 1 (by omega) (by omega) (by omega))⟩) (fun z => (z.elim (fun z4 => (z4.1.elim (fun z3 => (z3.1.elim (fun z2 => (nDn (e + 3) 0 (by omega) (by omega) z2.1.1)) (fun z2 => (pn (e + 3) 0 e 0 (by omega) (by omega) (by omega) z2)))) (fun z3 => (pn (e + 3) 0 (e + 1) 0 (by omega) (by omega) (by omega) z3)))) (fun z4 => (pn (e + 3) 0 (e + 2) 0 (by omega) (by omega) (by omega) z4)))) (bN (e + 3) 0 (by omega) (by omega) (by omega)) (Pb 2 (by omega)) PE3_0 f4_E3_0 (by omega)
  have G5 := K5.1
  have hD5 : ∀ x, (((((((((md_D o E (md_v e rk) x ∧ x ≠ (md_p o a 0) ∧ x ≠ (md_p o b 0)) ∧ x ≠ (md_p o a 1)) ∨ x = (md_p o e 0)) ∧ x ≠ (md_p o a 2)) ∨ x = (md_p o (e + 1) 0)) ∧ x ≠ (md_p o b 1)) ∨ x = (md_p o (e + 2) 0)) ∧ x ≠ (md_p o b 2)) ∨ x = (md_p o (e + 3) 0)) → (fun x => E x ∨ (o ≤ x ∧ (((x - o) / 3 < e ∧ rk ((x - o) / 3) ≠ -1) ∨ (e ≤ (x - o) / 3 ∧ (x - o) / 3 < e + 4)))) x := fun x z => z.elim (fun z => hD4 x z.1) (fun z => z ▸ bN (e + 3) 0 (by omega) (by omega) (by omega))
  have K6 : md_HR (fun x => ((((((((((md_D o E (md_v e rk) x ∧ x ≠ (md_p o a 0) ∧ x ≠ (md_p o b 0)) ∧ x ≠ (md_p o a 1)) ∨ x = (md_p o e 0)) ∧ x ≠ (md_p o a 2)) ∨ x = (md_p o (e + 1) 0)) ∧ x ≠ (md_p o b 1)) ∨ x = (md_p o (e + 2) 0)) ∧ x ≠ (md_p o b 2)) ∨ x = (md_p o (e + 3) 0)) ∨ x = (md_p o e 1) ∨ x = (md_p o (e + 2) 1))) (md_P o U g') (md_J (md_M (md_M (md_M (md_M (fz_F h (md_p o a 0) (md_p o b 0)) (md_p o a 1) (md_p o e 0)) (md_p o a 2) (md_p o (e + 1) 0)) (md_p o b 1) (md_p o (e + 2) 0)) (md_p o b 2) (md_p o (e + 3) 0)) (md_p o e 1) (md_p o (e + 2) 1)) w6 ∧ fz_L w5 (12 * g b + 4) (12 * g a + 4) = 0 := by
    rw [hw6]
    exact md_HJ hB hD5 i5 G5 (s := (md_p o e 1)) (t := (md_p o (e + 2) 1)) (fun z => (z.elim (fun z5 => (z5.1.elim (fun z4 => (z4.1.elim (fun z3 => (z3.1.elim (fun z2 => (nDn e 1 (by omega) (by omega) z2.1.1)) (fun z2 => (ps e 1 0 (by omega) (by omega) (by omega) z2)))) (fun z3 => (pn e 1 (e + 1) 0 (by omega) (by omega) (by omega) z3)))) (fun z4 => (pn e 1 (e + 2) 0 (by omega) (by omega) (by omega) z4)))) (fun z5 => (pn e 1 (e + 3) 0 (by omega) (by omega) (by omega) z5)))) (fun z => (z.elim (fun z5 => (z5.1.elim (fun z4 => (z4.1.elim (fun z3 => (z3.1.elim (fun z2 => (nDn (e + 2) 1 (by omega) (by omega) z2.1.1)) (fun z2 => (pn (e + 2) 1 e 0 (by omega) (by omega) (by omega) z2)))) (fun z3 => (pn (e + 2) 1 (e + 1) 0 (by omega) (by omega) (by omega) z3)))) (fun z4 => (ps (e + 2) 1 0 (by omega) (by omega) (by omega) z4)))) (fun z5 => (pn (e + 2) 1 (e + 3) 0 (by omega) (by omega) (by omega) z5)))) (bN e 1 (by omega) (by omega) (by omega)) (bN (e + 2) 1 (by omega) (by omega) (by omega)) (pn e 1 (e + 2) 1 (by omega) (by omega) (by omega)) PE0_1 PE2_1 f5_E0_1 (by omega) f5_E2_1 (by omega)
  have G6 := K6.1
  have hD6 : ∀ x, ((((((((((md_D o E (md_v e rk) x ∧ x ≠ (md_p o a 0) ∧ x ≠ (md_p o b 0)) ∧ x ≠ (md_p o a 1)) ∨ x = (md_p o e 0)) ∧ x ≠ (md_p o a 2)) ∨ x = (md_p o (e + 1) 0)) ∧ x ≠ (md_p o b 1)) ∨ x = (md_p o (e + 2) 0)) ∧ x ≠ (md_p o b 2)) ∨ x = (md_p o (e + 3) 0)) ∨ x = (md_p o e 1) ∨ x = (md_p o (e + 2) 1)) → (fun x => E x ∨ (o ≤ x ∧ (((x - o) / 3 < e ∧ rk ((x - o) / 3) ≠ -1) ∨ (e ≤ (x - o) / 3 ∧ (x - o) / 3 < e + 4)))) x := fun x z => z.elim (fun z => hD5 x z) (fun z => z.elim (fun z => z ▸ bN e 1 (by omega) (by omega) (by omega)) (fun z => z ▸ bN (e + 2) 1 (by omega) (by omega) (by omega)))
  have K7 : md_HR (fun x => (((((((((((md_D o E (md_v e rk) x ∧ x ≠ (md_p o a 0) ∧ x ≠ (md_p o b 0)) ∧ x ≠ (md_p o a 1)) ∨ x = (md_p o e 0)) ∧ x ≠ (md_p o a 2)) ∨ x = (md_p o (e + 1) 0)) ∧ x ≠ (md_p o b 1)) ∨ x = (md_p o (e + 2) 0)) ∧ x ≠ (md_p o b 2)) ∨ x = (md_p o (e + 3) 0)) ∨ x = (md_p o e 1) ∨ x = (md_p o (e + 2) 1)) ∨ x = (md_p o e 2) ∨ x = (md_p o (e + 3) 1))) (md_P o U g') (md_J (md_J (md_M (md_M (md_M (md_M (fz_F h (md_p o a 0) (md_p o b 0)) (md_p o a 1) (md_p o e 0)) (md_p o a 2) (md_p o (e + 1) 0)) (md_p o b 1) (md_p o (e + 2) 0)) (md_p o b 2) (md_p o (e + 3) 0)) (md_p o e 1) (md_p o (e + 2) 1)) (md_p o e 2) (md_p o (e + 3) 1)) w7 ∧ fz_L w6 (12 * g b + 5) (12 * g a + 10) = 0 := by
    rw [hw7]
    exact md_HJ hB hD6 i6 G6 (s := (md_p o e 2)) (t := (md_p o (e + 3) 1)) (fun z => (z.elim (fun z6 => (z6.elim (fun z5 => (z5.1.elim (fun z4 => (z4.1.elim (fun z3 => (z3.1.elim (fun z2 => (nDn e 2 (by omega) (by omega) z2.1.1)) (fun z2 => (ps e 2 0 (by omega) (by omega) (by omega) z2)))) (fun z3 => (pn e 2 (e + 1) 0 (by omega) (by omega) (by omega) z3)))) (fun z4 => (pn e 2 (e + 2) 0 (by omega) (by omega) (by omega) z4)))) (fun z5 => (pn e 2 (e + 3) 0 (by omega) (by omega) (by omega) z5)))) (fun z6 => z6.elim (fun y6 => (ps e 2 1 (by omega) (by omega) (by omega) y6)) (fun y6 => (pn e 2 (e + 2) 1 (by omega) (by omega) (by omega) y6))))) (fun z => (z.elim (fun z6 => (z6.elim (fun z5 => (z5.1.elim (fun z4 => (z4.1.elim (fun z3 => (z3.1.elim (fun z2 => (nDn (e + 3) 1 (by omega) (by omega) z2.1.1)) (fun z2 => (pn (e + 3) 1 e 0 (by omega) (by omega) (by omega) z2)))) (fun z3 => (pn (e + 3) 1 (e + 1) 0 (by omega) (by omega) (by omega) z3)))) (fun z4 => (pn (e + 3) 1 (e + 2) 0 (by omega) (by omega) (by omega) z4)))) (fun z5 => (ps (e + 3) 1 0 (by omega) (by omega) (by omega) z5)))) (fun z6 => z6.elim (fun y6 => (pn (e + 3) 1 e 1 (by omega) (by omega) (by omega) y6)) (fun y6 => (pn (e + 3) 1 (e + 2) 1 (by omega) (by omega) (by omega) y6))))) (bN e 2 (by omega) (by omega) (by omega)) (bN (e + 3) 1 (by omega) (by omega) (by omega)) (pn e 2 (e + 3) 1 (by omega) (by omega) (by omega)) PE0_2 PE3_1 f6_E0_2 (by omega) f6_E3_1 (by omega)
  have G7 := K7.1
  have hD7 : ∀ x, (((((((((((md_D o E (md_v e rk) x ∧ x ≠ (md_p o a 0) ∧ x ≠ (md_p o b 0)) ∧ x ≠ (md_p o a 1)) ∨ x = (md_p o e 0)) ∧ x ≠ (md_p o a 2)) ∨ x = (md_p o (e + 1) 0)) ∧ x ≠ (md_p o b 1)) ∨ x = (md_p o (e + 2) 0)) ∧ x ≠ (md_p o b 2)) ∨ x = (md_p o (e + 3) 0)) ∨ x = (md_p o e 1) ∨ x = (md_p o (e + 2) 1)) ∨ x = (md_p o e 2) ∨ x = (md_p o (e + 3) 1)) → (fun x => E x ∨ (o ≤ x ∧ (((x - o) / 3 < e ∧ rk ((x - o) / 3) ≠ -1) ∨ (e ≤ (x - o) / 3 ∧ (x - o) / 3 < e + 4)))) x := fun x z => z.elim (fun z => hD6 x z) (fun z => z.elim (fun z => z ▸ bN e 2 (by omega) (by omega) (by omega)) (fun z => z ▸ bN (e + 3) 1 (by omega) (by omega) (by omega)))
  have K8 : md_HR (fun x => ((((((((((((md_D o E (md_v e rk) x ∧ x ≠ (md_p o a 0) ∧ x ≠ (md_p o b 0)) ∧ x ≠ (md_p o a 1)) ∨ x = (md_p o e 0)) ∧ x ≠ (md_p o a 2)) ∨ x = (md_p o (e + 1) 0)) ∧ x ≠ (md_p o b 1)) ∨ x = (md_p o (e + 2) 0)) ∧ x ≠ (md_p o b 2)) ∨ x = (md_p o (e + 3) 0)) ∨ x = (md_p o e 1) ∨ x = (md_p o (e + 2) 1)) ∨ x = (md_p o e 2) ∨ x = (md_p o (e + 3) 1)) ∨ x = (md_p o (e + 1) 1) ∨ x = (md_p o (e + 2) 2))) (md_P o U g') (md_J (md_J (md_J (md_M (md_M (md_M (md_M (fz_F h (md_p o a 0) (md_p o b 0)) (md_p o a 1) (md_p o e 0)) (md_p o a 2) (md_p o (e + 1) 0)) (md_p o b 1) (md_p o (e + 2) 0)) (md_p o b 2) (md_p o (e + 3) 0)) (md_p o e 1) (md_p o (e + 2) 1)) (md_p o e 2) (md_p o (e + 3) 1)) (md_p o (e + 1) 1) (md_p o (e + 2) 2)) w8 ∧ fz_L w7 (12 * g b + 10) (12 * g a + 5) = 0 := by
    rw [hw8]
    exact md_HJ hB hD7 i7 G7 (s := (md_p o (e + 1) 1)) (t := (md_p o (e + 2) 2)) (fun z => (z.elim (fun z7 => (z7.elim (fun z6 => (z6.elim (fun z5 => (z5.1.elim (fun z4 => (z4.1.elim (fun z3 => (z3.1.elim (fun z2 => (nDn (e + 1) 1 (by omega) (by omega) z2.1.1)) (fun z2 => (pn (e + 1) 1 e 0 (by omega) (by omega) (by omega) z2)))) (fun z3 => (ps (e + 1) 1 0 (by omega) (by omega) (by omega) z3)))) (fun z4 => (pn (e + 1) 1 (e + 2) 0 (by omega) (by omega) (by omega) z4)))) (fun z5 => (pn (e + 1) 1 (e + 3) 0 (by omega) (by omega) (by omega) z5)))) (fun z6 => z6.elim (fun y6 => (pn (e + 1) 1 e 1 (by omega) (by omega) (by omega) y6)) (fun y6 => (pn (e + 1) 1 (e + 2) 1 (by omega) (by omega) (by omega) y6))))) (fun z7 => z7.elim (fun y7 => (pn (e + 1) 1 e 2 (by omega) (by omega) (by omega) y7)) (fun y7 => (pn (e + 1) 1 (e + 3) 1 (by omega) (by omega) (by omega) y7))))) (fun z => (z.elim (fun z7 => (z7.elim (fun z6 => (z6.elim (fun z5 => (z5.1.elim (fun z4 => (z4.1.elim (fun z3 => (z3.1.elim (fun z2 => (nDn (e + 2) 2 (by omega) (by omega) z2.1.1)) (fun z2 => (pn (e + 2) 2 e 0 (by omega) (by omega) (by omega) z2)))) (fun z3 => (pn (e + 2) 2 (e + 1) 0 (by omega) (by omega) (by omega) z3)))) (fun z4 => (ps (e + 2) 2 0 (by omega) (by omega) (by omega) z4)))) (fun z5 => (pn (e + 2) 2 (e + 3) 0 (by omega) (by omega) (by omega) z5)))) (fun z6 => z6.elim (fun y6 => (pn (e + 2) 2 e 1 (by omega) (by omega) (by omega) y6)) (fun y6 => (ps (e + 2) 2 1 (by omega) (by omega) (by omega) y6))))) (fun z7 => z7.elim (fun y7 => (pn (e + 2) 2 e 2 (by omega) (by omega) (by omega) y7)) (fun y7 => (pn (e + 2) 2 (e + 3) 1 (by omega) (by omega) (by omega) y7))))) (bN (e + 1) 1 (by omega) (by omega) (by omega)) (bN (e + 2) 2 (by omega) (by omega) (by omega)) (pn (e + 1) 1 (e + 2) 2 (by omega) (by omega) (by omega)) PE1_1 PE2_2 f7_E1_1 (by omega) f7_E2_2 (by omega)
  have G8 := K8.1
  have hD8 : ∀ x, ((((((((((((md_D o E (md_v e rk) x ∧ x ≠ (md_p o a 0) ∧ x ≠ (md_p o b 0)) ∧ x ≠ (md_p o a 1)) ∨ x = (md_p o e 0)) ∧ x ≠ (md_p o a 2)) ∨ x = (md_p o (e + 1) 0)) ∧ x ≠ (md_p o b 1)) ∨ x = (md_p o (e + 2) 0)) ∧ x ≠ (md_p o b 2)) ∨ x = (md_p o (e + 3) 0)) ∨ x = (md_p o e 1) ∨ x = (md_p o (e + 2) 1)) ∨ x = (md_p o e 2) ∨ x = (md_p o (e + 3) 1)) ∨ x = (md_p o (e + 1) 1) ∨ x = (md_p o (e + 2) 2)) → (fun x => E x ∨ (o ≤ x ∧ (((x - o) / 3 < e ∧ rk ((x - o) / 3) ≠ -1) ∨ (e ≤ (x - o) / 3 ∧ (x - o) / 3 < e + 4)))) x := fun x z => z.elim (fun z => hD7 x z) (fun z => z.elim (fun z => z ▸ bN (e + 1) 1 (by omega) (by omega) (by omega)) (fun z => z ▸ bN (e + 2) 2 (by omega) (by omega) (by omega)))
  have K9 : md_HR (fun x => (((((((((((((md_D o E (md_v e rk) x ∧ x ≠ (md_p o a 0) ∧ x ≠ (md_p o b 0)) ∧ x ≠ (md_p o a 1)) ∨ x = (md_p o e 0)) ∧ x ≠ (md_p o a 2)) ∨ x = (md_p o (e + 1) 0)) ∧ x ≠ (md_p o b 1)) ∨ x = (md_p o (e + 2) 0)) ∧ x ≠ (md_p o b 2)) ∨ x = (md_p o (e + 3) 0)) ∨ x = (md_p o e 1) ∨ x = (md_p o (e + 2) 1)) ∨ x = (md_p o e 2) ∨ x = (md_p o (e + 3) 1)) ∨ x = (md_p o (e + 1) 1) ∨ x = (md_p o (e + 2) 2)) ∨ x = (md_p o (e + 1) 2) ∨ x = (md_p o (e + 3) 2))) (md_P o U g') (md_J (md_J (md_J (md_J (md_M (md_M (md_M (md_M (fz_F h (md_p o a 0) (md_p o b 0)) (md_p o a 1) (md_p o e 0)) (md_p o a 2) (md_p o (e + 1) 0)) (md_p o b 1) (md_p o (e + 2) 0)) (md_p o b 2) (md_p o (e + 3) 0)) (md_p o e 1) (md_p o (e + 2) 1)) (md_p o e 2) (md_p o (e + 3) 1)) (md_p o (e + 1) 1) (md_p o (e + 2) 2)) (md_p o (e + 1) 2) (md_p o (e + 3) 2)) w9 ∧ fz_L w8 (12 * g b + 11) (12 * g a + 11) = 0 := by
    rw [hw9]
    exact md_HJ hB hD8 i8 G8 (s := (md_p o (e + 1) 2)) (t := (md_p o (e + 3) 2)) (fun z => (z.elim (fun z8 => (z8.elim (fun z7 => (z7.elim (fun z6 => (z6.elim (fun z5 => (z5.1.elim (fun z4 => (z4.1.elim (fun z3 => (z3.1.elim (fun z2 => (nDn (e + 1) 2 (by omega) (by omega) z2.1.1)) (fun z2 => (pn (e + 1) 2 e 0 (by omega) (by omega) (by omega) z2)))) (fun z3 => (ps (e + 1) 2 0 (by omega) (by omega) (by omega) z3)))) (fun z4 => (pn (e + 1) 2 (e + 2) 0 (by omega) (by omega) (by omega) z4)))) (fun z5 => (pn (e + 1) 2 (e + 3) 0 (by omega) (by omega) (by omega) z5)))) (fun z6 => z6.elim (fun y6 => (pn (e + 1) 2 e 1 (by omega) (by omega) (by omega) y6)) (fun y6 => (pn (e + 1) 2 (e + 2) 1 (by omega) (by omega) (by omega) y6))))) (fun z7 => z7.elim (fun y7 => (pn (e + 1) 2 e 2 (by omega) (by omega) (by omega) y7)) (fun y7 => (pn (e + 1) 2 (e + 3) 1 (by omega) (by omega) (by omega) y7))))) (fun z8 => z8.elim (fun y8 => (ps (e + 1) 2 1 (by omega) (by omega) (by omega) y8)) (fun y8 => (pn (e + 1) 2 (e + 2) 2 (by omega) (by omega) (by omega) y8))))) (fun z => (z.elim (fun z8 => (z8.elim (fun z7 => (z7.elim (fun z6 => (z6.elim (fun z5 => (z5.1.elim (fun z4 => (z4.1.elim (fun z3 => (z3.1.elim (fun z2 => (nDn (e + 3) 2 (by omega) (by omega) z2.1.1)) (fun z2 => (pn (e + 3) 2 e 0 (by omega) (by omega) (by omega) z2)))) (fun z3 => (pn (e + 3) 2 (e + 1) 0 (by omega) (by omega) (by omega) z3)))) (fun z4 => (pn (e + 3) 2 (e + 2) 0 (by omega) (by omega) (by omega) z4)))) (fun z5 => (ps (e + 3) 2 0 (by omega) (by omega) (by omega) z5)))) (fun z6 => z6.elim (fun y6 => (pn (e + 3) 2 e 1 (by omega) (by omega) (by omega) y6)) (fun y6 => (pn (e + 3) 2 (e + 2) 1 (by omega) (by omega) (by omega) y6))))) (fun z7 => z7.elim (fun y7 => (pn (e + 3) 2 e 2 (by omega) (by omega) (by omega) y7)) (fun y7 => (ps (e + 3) 2 1 (by omega) (by omega) (by omega) y7))))) (fun z8 => z8.elim (fun y8 => (pn (e + 3) 2 (e + 1) 1 (by omega) (by omega) (by omega) y8)) (fun y8 => (pn (e + 3) 2 (e + 2) 2 (by omega) (by omega) (by omega) y8))))) (bN (e + 1) 2 (by omega) (by omega) (by omega)) (bN (e + 3) 2 (by omega) (by omega) (by omega)) (pn (e + 1) 2 (e + 3) 2 (by omega) (by omega) (by omega)) PE1_2 PE3_2 f8_E1_2 (by omega) f8_E3_2 (by omega)
  have G9 := K9.1
  have est : fz_st N (g a) (g b) = (fz_kd N.1 (g a) (g b), w9, N.2.2 + fz_L N.2.1 (6 * g a + 0) (6 * g b + 0) + fz_L w1 (6 * g a + 1) (12 * g b + 3) + fz_L w2 (6 * g a + 2) (12 * g b + 9) + fz_L w3 (6 * g b + 1) (12 * g a + 3) + fz_L w4 (6 * g b + 2) (12 * g a + 9) + fz_L w5 (12 * g b + 4) (12 * g a + 4) + fz_L w6 (12 * g b + 5) (12 * g a + 10) + fz_L w7 (12 * g b + 10) (12 * g a + 5) + fz_L w8 (12 * g b + 11) (12 * g a + 11)) := by
    have z1 : fz_F N.2.1 (6 * g a) (6 * g b) = w1 := hw1.symm
    unfold fz_st fz_ops fz_tl
    rw [A, B, k0, k1, if_neg (by decide), if_neg (by decide), if_neg (by decide), if_pos rfl]
    refine Prod.ext rfl ?_
    show fz_run (fz_cp (g a) (g b)) (fz_F N.2.1 (6 * g a) (6 * g b), N.2.2 + fz_L N.2.1 (6 * g a + 0) (6 * g b + 0)) = _
    unfold fz_cp
    rw [z1, fz_rc, ← hw2, fz_rc, ← hw3, fz_rc, ← hw4, fz_rc, ← hw5, fz_rc, ← hw6, fz_rc, ← hw7, fz_rc, ← hw8, fz_rc, ← hw9]
    rfl
  have eL : fz_L h (md_p o a 0) (md_p o b 0) = 1 := by unfold fz_L; rw [if_pos hh]
  have ka : (upd (upd (upd (upd (upd (upd rk a (-1)) b (-1)) e 1) (e + 1) 1) (e + 2) 0) (e + 3) 0) a = -1 := by rw [pk_un (by omega), pk_un (by omega), pk_un (by omega), pk_un (by omega), pk_un hab, pk_us]
  have kb : (upd (upd (upd (upd (upd (upd rk a (-1)) b (-1)) e 1) (e + 1) 1) (e + 2) 0) (e + 3) 0) b = -1 := by rw [pk_un (by omega), pk_un (by omega), pk_un (by omega), pk_un (by omega), pk_us]
  have kk : ∀ c, c < e → c ≠ a → c ≠ b → (upd (upd (upd (upd (upd (upd rk a (-1)) b (-1)) e 1) (e + 1) 1) (e + 2) 0) (e + 3) 0) c = rk c := fun c hc n1 n2 => by rw [pk_un (by omega), pk_un (by omega), pk_un (by omega), pk_un (by omega), pk_un n2, pk_un n1]
  have ke0 : (upd (upd (upd (upd (upd (upd rk a (-1)) b (-1)) e 1) (e + 1) 1) (e + 2) 0) (e + 3) 0) e = 1 := by rw [pk_un (by omega), pk_un (by omega), pk_un (by omega), pk_us]
  have ke1 : (upd (upd (upd (upd (upd (upd rk a (-1)) b (-1)) e 1) (e + 1) 1) (e + 2) 0) (e + 3) 0) (e + 1) = 1 := by rw [pk_un (by omega), pk_un (by omega), pk_us]
  have ke2 : (upd (upd (upd (upd (upd (upd rk a (-1)) b (-1)) e 1) (e + 1) 1) (e + 2) 0) (e + 3) 0) (e + 2) = 0 := by rw [pk_un (by omega), pk_us]
  have ke3 : (upd (upd (upd (upd (upd (upd rk a (-1)) b (-1)) e 1) (e + 1) 1) (e + 2) 0) (e + 3) 0) (e + 3) = 0 := pk_us
  have ck1 : fz_ck (rk a) (rk b) = 0 := by rw [k0, k1]; rfl
  have ck2 : fz_ck (rk b) (rk a) = 1 := by rw [k0, k1]; rfl
  refine ⟨g', ?_, by rw [est, K1.2, K2.2, K3.2, K4.2, K5.2, K6.2, K7.2, K8.2, K9.2, eL]⟩
  refine md_mk R ha hb la lb AC (by omega) hg ka kb kk (fun c h1 h2 => ⟨?_, fun c' h3 h4 z => nin c h1 h2 c' h3 h4 z⟩) (fun n hn _ => ?_) (fun n hn _ => ?_) ?_
  · rcases new c h1 h2 with rfl | rfl | rfl | rfl
    · exact Or.inr ⟨by omega, ke0.trans ck2.symm⟩
    · exact Or.inr ⟨by omega, ke1.trans ck2.symm⟩
    · exact Or.inl ⟨by omega, ke2.trans ck1.symm⟩
    · exact Or.inl ⟨by omega, ke3.trans ck1.symm⟩
  · by_cases c : n = 2 * g a
    · exact ⟨e + 2, by omega, by omega, by omega⟩
    · exact ⟨e + 3, by omega, by omega, by omega⟩
  · by_cases c : n = 2 * g b
    · exact ⟨e, by omega, by omega, by omega⟩
    · exact ⟨e + 1, by omega, by omega, by omega⟩
  · rw [est]
    refine md_HC G9 (md_DE (v := md_v e rk) ?_ ?_ ?_) (fun _ _ => rfl)
    · intro x ex
      have na : ∀ s, s < 3 → x ≠ md_p o a s := fun s hs z => nEa s hs (z ▸ ex)
      have nb : ∀ s, s < 3 → x ≠ md_p o b s := fun s hs z => nEb s hs (z ▸ ex)
      exact Or.inl (Or.inl (Or.inl (Or.inl (Or.inl ⟨Or.inl ⟨Or.inl ⟨Or.inl ⟨⟨Or.inl ex, na 0 (by omega), nb 0 (by omega)⟩, na 1 (by omega)⟩, na 2 (by omega)⟩, nb 1 (by omega)⟩, nb 2 (by omega)⟩))))
    · intro x ex ox z
      have no : ∀ c s, x ≠ md_p o c s := fun c s z => ox (z ▸ md_po)
      rcases z with z | z | z
      · rcases z with z | z | z
        · rcases z with z | z | z
          · rcases z with z | z | z
            · rcases z with ⟨z, _⟩ | z
              · rcases z with ⟨z, _⟩ | z
                · rcases z with ⟨z, _⟩ | z
                  · rcases z with ⟨z, _⟩ | z
                    · exact z.1.elim ex (fun z => ox z.1)
                    · exact no _ _ z
                  · exact no _ _ z
                · exact no _ _ z
              · exact no _ _ z
            · exact no _ _ z
            · exact no _ _ z
          · exact no _ _ z
          · exact no _ _ z
        · exact no _ _ z
        · exact no _ _ z
      · exact no _ _ z
      · exact no _ _ z
    · intro c s hs ex
      rw [md_Di ex hs]
      show _ ↔ s < md_v (e + 4) _ c
      simp only [Ne, md_pe hs (show 0 < 3 by omega), md_pe hs (show 1 < 3 by omega), md_pe hs (show 2 < 3 by omega)]
      have s3 : s = 0 ∨ s = 1 ∨ s = 2 := by omega
      by_cases c1 : c = a
      · have v' : md_v (e + 4) (upd (upd (upd (upd (upd (upd rk a (-1)) b (-1)) e 1) (e + 1) 1) (e + 2) 0) (e + 3) 0) c = 0 := by rw [c1]; unfold md_v; rw [if_pos (by omega), ka]; rfl
        have q0 : ¬ c = b := by omega
        have q1 : ¬ c = e := by omega
        have q2 : ¬ c = e + 1 := by omega
        have q3 : ¬ c = e + 2 := by omega
        have q4 : ¬ c = e + 3 := by omega
        rw [v', c1, va]
        rw [c1] at q0 q1 q2 q3 q4
        simp only [q0, q1, q2, q3, q4, false_and, not_false_eq_true, and_true, or_false, true_and]
        omega
      · by_cases c2 : c = b
        · have v' : md_v (e + 4) (upd (upd (upd (upd (upd (upd rk a (-1)) b (-1)) e 1) (e + 1) 1) (e + 2) 0) (e + 3) 0) c = 0 := by rw [c2]; unfold md_v; rw [if_pos (by omega), kb]; rfl
          have q1 : ¬ c = e := by omega
          have q2 : ¬ c = e + 1 := by omega
          have q3 : ¬ c = e + 2 := by omega
          have q4 : ¬ c = e + 3 := by omega
          rw [v', c2, vb]
          rw [c2] at c1 q1 q2 q3 q4
          simp only [c1, q1, q2, q3, q4, false_and, not_false_eq_true, and_true, or_false, true_and]
          omega
        · by_cases c3 : e ≤ c ∧ c < e + 4
          · have v0 := vn c c3.1
            rw [v0]
            simp only [c1, c2, false_and, not_false_eq_true, and_true, Nat.not_lt_zero, false_or]
            rcases new c c3.1 c3.2 with q | q | q | q
            · have v' : md_v (e + 4) (upd (upd (upd (upd (upd (upd rk a (-1)) b (-1)) e 1) (e + 1) 1) (e + 2) 0) (e + 3) 0) c = 3 := by rw [q]; unfold md_v; rw [if_pos (by omega), ke0]; rfl
              rw [v', q]; omega
            · have v' : md_v (e + 4) (upd (upd (upd (upd (upd (upd rk a (-1)) b (-1)) e 1) (e + 1) 1) (e + 2) 0) (e + 3) 0) c = 3 := by rw [q]; unfold md_v; rw [if_pos (by omega), ke1]; rfl
              rw [v', q]; omega
            · have v' : md_v (e + 4) (upd (upd (upd (upd (upd (upd rk a (-1)) b (-1)) e 1) (e + 1) 1) (e + 2) 0) (e + 3) 0) c = 3 := by rw [q]; unfold md_v; rw [if_pos (by omega), ke2]; rfl
              rw [v', q]; omega
            · have v' : md_v (e + 4) (upd (upd (upd (upd (upd (upd rk a (-1)) b (-1)) e 1) (e + 1) 1) (e + 2) 0) (e + 3) 0) c = 3 := by rw [q]; unfold md_v; rw [if_pos (by omega), ke3]; rfl
              rw [v', q]; omega
          · have v' : md_v (e + 4) (upd (upd (upd (upd (upd (upd rk a (-1)) b (-1)) e 1) (e + 1) 1) (e + 2) 0) (e + 3) 0) c = md_v e rk c := by
              unfold md_v
              by_cases c5 : c < e
              · rw [if_pos (by omega), if_pos c5, kk c c5 c1 c2]
              · rw [if_neg (by omega), if_neg c5]
            have q1 : ¬ c = e := by omega
            have q2 : ¬ c = e + 1 := by omega
            have q3 : ¬ c = e + 2 := by omega
            have q4 : ¬ c = e + 3 := by omega
            rw [v']
            simp only [c1, c2, q1, q2, q3, q4, false_and, not_false_eq_true, and_true, or_false]
end
section
/-! the component's own methods over the middle level -/
theorem xl_nm1 {n : Nat} (h : n < 2 ^ 31) : nI n ≠ -1 := by
  intro e
  have := nI_pos h
  rw [e] at this
  exact this (by decide)
theorem xl_3 (c : Nat) : (3 : Int32) * nI c = nI (3 * c) := pk_mul 3 c
theorem xl_a1 (c : Nat) : nI c + 1 = nI (c + 1) := nI_1 c
theorem xl_a2 (c : Nat) : nI c + 2 = nI (c + 2) := nI_add c 2
theorem md_fo_s {x : Nat} : md_fo x x = -1 := if_pos rfl
theorem md_fo_n {x q : Nat} (h : q ≠ x) : md_fo x q = nI q := if_neg h
def xl_W (rw : Nat → Int32) (h : Nat → Nat) : Prop := ∀ p, p < 1476 → rw p = md_fo p (h p)
theorem xl_Wo {rw : Nat → Int32} {h : Nat → Nat} {p t : Nat} (W : xl_W rw h) (hi : fz_I h) (htt : h t = t) (c : h p = p) : xl_W (upd rw p (-1)) (md_M h p t) := by
  intro x hx
  have e := W x hx
  have hx2 := hi x
  unfold upd md_M md_fo at *
  grind
theorem xl_Wm {rw : Nat → Int32} {h : Nat → Nat} {p t : Nat} (W : xl_W rw h) (hi : fz_I h) (hpt : p ≠ t) (htt : h t = t) (c : h p ≠ p) : xl_W (upd (upd (upd rw p (-1)) t (nI (h p))) (h p) (nI t)) (md_M h p t) := by
  intro x hx
  have e := W x hx
  have hx2 := hi x
  have hp2 := hi p
  unfold upd md_M md_fo at *
  grind
theorem xl_Wj {rw : Nat → Int32} {h : Nat → Nat} {p q : Nat} (W : xl_W rw h) (hpq : p ≠ q) : xl_W (upd (upd rw p (nI q)) q (nI p)) (md_J h p q) := by
  intro x hx
  have e := W x hx
  unfold upd md_J md_fo at *
  grind
theorem xl_Wl {rw : Nat → Int32} {h : Nat → Nat} {p q : Nat} (W : xl_W rw h) (hi : fz_I h) (hpq : p ≠ q) (c : h p = q) : xl_W (upd (upd rw p (-1)) q (-1)) (fz_F h p q) := by
  intro x hx
  have e := W x hx
  have hx2 := hi x
  have hp2 := hi p
  unfold upd fz_F md_fo at *
  grind
theorem xl_Wf0 {rw : Nat → Int32} {h : Nat → Nat} {p q : Nat} (W : xl_W rw h) (hi : fz_I h) (hpq : p ≠ q) (c : h p = p) (d : h q = q) : xl_W (upd (upd rw p (-1)) q (-1)) (fz_F h p q) := by
  intro x hx
  have e := W x hx
  have hx2 := hi x
  unfold upd fz_F md_fo at *
  grind
theorem xl_Wf1 {rw : Nat → Int32} {h : Nat → Nat} {p q : Nat} (W : xl_W rw h) (hi : fz_I h) (hpq : p ≠ q) (c : h p = p) (d : h q ≠ q) : xl_W (upd (upd (upd rw p (-1)) q (-1)) (h q) (-1)) (fz_F h p q) := by
  intro x hx
  have e := W x hx
  have hx2 := hi x
  have hq2 := hi q
  unfold upd fz_F md_fo at *
  grind
theorem xl_Wf2 {rw : Nat → Int32} {h : Nat → Nat} {p q : Nat} (W : xl_W rw h) (hi : fz_I h) (hpq : p ≠ q) (b : h p ≠ q) (c : h p ≠ p) (d : h q = q) : xl_W (upd (upd (upd rw p (-1)) q (-1)) (h p) (-1)) (fz_F h p q) := by
  intro x hx
  have e := W x hx
  have hx2 := hi x
  have hp2 := hi p
  unfold upd fz_F md_fo at *
  grind
theorem xl_Wf3 {rw : Nat → Int32} {h : Nat → Nat} {p q : Nat} (W : xl_W rw h) (hi : fz_I h) (hpq : p ≠ q) (b : h p ≠ q) (c : h p ≠ p) (d : h q ≠ q) : xl_W (upd (upd (upd (upd rw p (-1)) q (-1)) (h p) (nI (h q))) (h q) (nI (h p))) (fz_F h p q) := by
  intro x hx
  have e := W x hx
  have hx2 := hi x
  have hp2 := hi p
  have hq2 := hi q
  unfold upd fz_F md_fo at *
  grind
section
variable {fc fe fs fl fr : Int32} {ak aw rk rw ir re : Nat → Int32}
theorem xl_to {post : SX → Prop} {c : Nat} (hc : c < 492) (H : post (fc, fe, fs, fl, fr, ak, aw, upd rk c (-1), upd rw (3 * c) (-1), ir, re)) :
    wpX_takeOut post (fc, fe, fs, fl, fr, ak, aw, rk, rw, ir, re) (nI c) := by
  unfold wpX_takeOut
  dsimp only
  rw [xl_3, nI_clamp (by omega), nI_clamp (by omega)]
  exact ⟨vp_in_nI hc (by omega), nm_e ⟨vp_in_nI (by omega) (by omega), nm_e H⟩⟩
theorem xl_pi {post : Int32 → SX → Prop} {e : Nat} {k : Int32} (he : e < 492) (hfe : fe = nI e) (H : post (nI e) (fc, nI (e + 1), fs, fl, fr, ak, aw, upd rk e k, rw, ir, re)) :
    wpX_putIn post (fc, fe, fs, fl, fr, ak, aw, rk, rw, ir, re) k := by
  subst hfe
  unfold wpX_putIn
  dsimp only
  rw [xl_a1, nI_clamp (by omega)]
  exact ⟨vp_in_nI he (by omega), nm_e (nm_e H)⟩
theorem xl_pw {post : SX → Prop} {p q : Nat} (hp : p < 1476) (hq : q < 1476) (H : post (fc, fe, fs, fl, fr, ak, aw, rk, upd (upd rw p (nI q)) q (nI p), ir, re)) :
    wpX_putWire post (fc, fe, fs, fl, fr, ak, aw, rk, rw, ir, re) (nI p) (nI q) := by
  unfold wpX_putWire
  dsimp only
  rw [nI_clamp (by omega), nI_clamp (by omega)]
  exact ⟨vp_in_nI hp (by omega), nm_e ⟨vp_in_nI hq (by omega), nm_e H⟩⟩
theorem xl_pj {post : SX → Prop} {h : Nat → Nat} {p q : Nat} (hp : p < 1476) (hq : q < 1476) (W : xl_W rw h) (hpq : p ≠ q) (H : ∀ rw', xl_W rw' (md_J h p q) → post (fc, fe, fs, fl, fr, ak, aw, rk, rw', ir, re)) :
    wpX_putWire post (fc, fe, fs, fl, fr, ak, aw, rk, rw, ir, re) (nI p) (nI q) := xl_pw hp hq (H _ (xl_Wj W hpq))
theorem xl_mv {post : SX → Prop} {h : Nat → Nat} {p t : Nat} (hp : p < 1476) (ht : t < 1476) (W : xl_W rw h) (hi : fz_I h) (hpt : p ≠ t) (htt : h t = t) (hb : h p < 1476)
    (H : ∀ rw', xl_W rw' (md_M h p t) → post (fc, fe, fs, fl, fr, ak, aw, rk, rw', ir, re)) :
    wpX_moveWire post (fc, fe, fs, fl, fr, ak, aw, rk, rw, ir, re) (nI p) (nI t) := by
  unfold wpX_moveWire
  dsimp only
  rw [nI_clamp (show p < 2 ^ 31 by omega), W p hp]
  refine ⟨vp_in_nI hp (by omega), nm_e ⟨vp_in_nI hp (by omega), nm_e ?_⟩⟩
  by_cases c : h p = p
  · rw [c]
    exact br_t md_fo_s (H _ (xl_Wo W hi htt c))
  · rw [md_fo_n c]
    exact br_f (xl_nm1 (by omega)) (xl_pw ht hb (H _ (xl_Wm W hi hpt htt c)))
theorem xl_fu {post : SX → Prop} {h : Nat → Nat} {p q l : Nat} (hp : p < 1476) (hq : q < 1476) (W : xl_W rw h) (hi : fz_I h) (hpq : p ≠ q) (hbp : h p < 1476) (hbq : h q < 1476) (hl : fl = nI l)
    (H : ∀ rw', xl_W rw' (fz_F h p q) → post (fc, fe, fs, nI (l + fz_L h p q), fr, ak, aw, rk, rw', ir, re)) :
    wpX_fuseWires post (fc, fe, fs, fl, fr, ak, aw, rk, rw, ir, re) (nI p) (nI q) := by
  subst hl
  unfold wpX_fuseWires
  dsimp only
  rw [nI_clamp (show p < 2 ^ 31 by omega), nI_clamp (show q < 2 ^ 31 by omega), W p hp, W q hq]
  refine ⟨vp_in_nI hp (by omega), nm_e ⟨vp_in_nI hq (by omega), nm_e ⟨vp_in_nI hp (by omega), nm_e ⟨vp_in_nI hq (by omega), nm_e ?_⟩⟩⟩⟩
  by_cases b : h p = q
  · have eL : fz_L h p q = 1 := if_pos b
    rw [eL] at H
    have e1 : md_fo p (h p) = nI q := by rw [b]; exact md_fo_n (fun z => hpq z.symm)
    refine br_t e1 ?_
    rw [xl_a1]
    exact nm_e (H _ (xl_Wl W hi hpq b))
  · have eL : fz_L h p q = 0 := if_neg b
    rw [eL] at H
    have ne1 : ¬ md_fo p (h p) = nI q := by
      by_cases c : h p = p
      · rw [c, md_fo_s]
        exact fun z => xl_nm1 (by omega) z.symm
      · rw [md_fo_n c]
        exact fun z => b ((nI_eq (by omega) (by omega)).mp z)
    refine br_f ne1 ?_
    by_cases c : h p = p
    · rw [c, md_fo_s]
      refine br_t rfl ?_
      unfold wX_fuseWires_58
      by_cases d : h q = q
      · rw [d, md_fo_s]
        exact br_t rfl (H _ (xl_Wf0 W hi hpq c d))
      · rw [md_fo_n d, nI_clamp (by omega)]
        exact br_f (xl_nm1 (by omega)) ⟨vp_in_nI hbq (by omega), nm_e (H _ (xl_Wf1 W hi hpq c d))⟩
    · rw [md_fo_n c, nI_clamp (by omega)]
      refine br_f (xl_nm1 (by omega)) ⟨vp_in_nI hbp (by omega), nm_e ?_⟩
      unfold wX_fuseWires_58
      by_cases d : h q = q
      · rw [d, md_fo_s]
        exact br_t rfl (H _ (xl_Wf2 W hi hpq b c d))
      · rw [md_fo_n d, nI_clamp (by omega)]
        exact br_f (xl_nm1 (by omega)) ⟨vp_in_nI hbq (by omega), nm_e (H _ (xl_Wf3 W hi hpq b c d))⟩
end
end
section
/-! the component's step -/
theorem md_p0 (c : Nat) : md_p 0 c 0 = 3 * c := by unfold md_p; omega
theorem xl_q0 (c : Nat) : (3 : Int32) * nI c = nI (md_p 0 c 0) := by rw [xl_3, md_p0]
theorem xl_q1 (c : Nat) : (3 : Int32) * nI c + 1 = nI (md_p 0 c 1) := by rw [xl_3, xl_a1]; congr 1; unfold md_p; omega
theorem xl_q2 (c : Nat) : (3 : Int32) * nI c + 2 = nI (md_p 0 c 2) := by rw [xl_3, xl_a2]; congr 1; unfold md_p; omega
theorem xl_r1 (c : Nat) : nI (md_p 0 c 0) + 1 = nI (md_p 0 c 1) := by rw [xl_a1]; rfl
theorem xl_r2 (c : Nat) : nI (md_p 0 c 0) + 2 = nI (md_p 0 c 2) := by rw [xl_a2]; rfl
theorem xl_pb {c s : Nat} (hc : c < 492) (hs : s < 3) : md_p 0 c s < 1476 := by unfold md_p; omega
theorem md_Mi {h : Nat → Nat} {p t : Nat} (hi : fz_I h) (htt : h t = t) (hpt : p ≠ t) : fz_I (md_M h p t) := by
  intro x
  have hx := hi x
  have hp := hi p
  unfold md_M
  grind
theorem md_Mk {h : Nat → Nat} {p t x : Nat} (hx : h x = x) (h1 : x ≠ p) (h2 : x ≠ t) : md_M h p t x = x := by
  unfold md_M
  rw [if_neg h1, if_neg h2, hx, if_neg h1]
def xl_b (h : Nat → Nat) : Prop := ∀ x, x < 1476 → h x < 1476
theorem xl_bF {h : Nat → Nat} (H : xl_b h) {p q : Nat} (hp : p < 1476) (hq : q < 1476) : xl_b (fz_F h p q) := by
  intro x hx
  have a := H x hx
  have b := H p hp
  have c := H q hq
  unfold fz_F
  repeat' split
  all_goals assumption
theorem xl_bM {h : Nat → Nat} (H : xl_b h) {p t : Nat} (hp : p < 1476) (ht : t < 1476) : xl_b (md_M h p t) := by
  intro x hx
  have a := H x hx
  have b := H p hp
  unfold md_M
  repeat' split
  all_goals assumption
theorem xl_pn {c s c' s' : Nat} (hs : s < 3) (hs' : s' < 3) (h : c ≠ c') : md_p 0 c s ≠ md_p 0 c' s' := fun z => h ((md_pe hs hs').mp z).1
theorem xl_ps {c s s' : Nat} (hs : s < 3) (hs' : s' < 3) (h : s ≠ s') : md_p 0 c s ≠ md_p 0 c s' := fun z => h ((md_pe hs hs').mp z).2
section
variable {fc fe fs fl fr : Int32} {ak aw rk rw ir re : Nat → Int32}
theorem xl_er {post : SX → Prop} {h : Nat → Nat} {p e : Nat} (he : e + 1 < 492) (hp : p < e) (W : xl_W rw h) (hi : fz_I h) (hb : xl_b h) (t0 : h (md_p 0 e 0) = md_p 0 e 0) (t1 : h (md_p 0 (e + 1) 0) = md_p 0 (e + 1) 0)
    (H : ∀ rw', xl_W rw' (md_M (md_M h (md_p 0 p 1) (md_p 0 e 0)) (md_p 0 p 2) (md_p 0 (e + 1) 0)) → post (fc, nI (e + 2), fs, fl, fr, ak, aw, upd (upd rk e 2) (e + 1) 2, rw', ir, re)) :
    wpX_erase post (fc, nI e, fs, fl, fr, ak, aw, rk, rw, ir, re) (nI p) := by
  unfold wpX_erase
  dsimp only
  rw [xl_q1, xl_q2]
  refine xl_pi (by omega) rfl ?_
  dsimp only
  refine xl_pi (e := e + 1) (by omega) rfl ?_
  dsimp only
  rw [xl_q0, xl_q0]
  refine xl_mv (xl_pb (by omega) (by omega)) (xl_pb (by omega) (by omega)) W hi (xl_pn (by omega) (by omega) (by omega)) t0 (hb _ (xl_pb (by omega) (by omega))) (fun rw1 W1 => ?_)
  dsimp only
  refine xl_mv (xl_pb (by omega) (by omega)) (xl_pb (by omega) (by omega)) W1 (md_Mi hi t0 (xl_pn (by omega) (by omega) (by omega))) (xl_pn (by omega) (by omega) (by omega)) (md_Mk t1 (xl_pn (by omega) (by omega) (by omega)) (xl_pn (by omega) (by omega) (by omega))) (xl_bM hb (xl_pb (by omega) (by omega)) (xl_pb (by omega) (by omega)) _ (xl_pb (by omega) (by omega))) (fun rw2 W2 => ?_)
  exact H rw2 W2
theorem xl_cp {post : SX → Prop} {h : Nat → Nat} {c d e : Nat} (he : e + 3 < 492) (hc : c < e) (hd : d < e) (hcd : c ≠ d) (W : xl_W rw h) (hi : fz_I h) (hb : xl_b h) (ht : ∀ t s, e ≤ t → s < 3 → h (md_p 0 t s) = md_p 0 t s)
    (H : ∀ rw', xl_W rw' (md_J (md_J (md_J (md_J (md_M (md_M (md_M (md_M h (md_p 0 c 1) (md_p 0 e 0)) (md_p 0 c 2) (md_p 0 (e + 1) 0)) (md_p 0 d 1) (md_p 0 (e + 2) 0)) (md_p 0 d 2) (md_p 0 (e + 3) 0)) (md_p 0 e 1) (md_p 0 (e + 2) 1)) (md_p 0 e 2) (md_p 0 (e + 3) 1)) (md_p 0 (e + 1) 1) (md_p 0 (e + 2) 2)) (md_p 0 (e + 1) 2) (md_p 0 (e + 3) 2)) → post (fc, nI (e + 4), fs, fl, fr, ak, aw, upd (upd (upd (upd rk e 1) (e + 1) 1) (e + 2) 0) (e + 3) 0, rw', ir, re)) :
    wpX_copyEachOther post (fc, nI e, fs, fl, fr, ak, aw, rk, rw, ir, re) (nI c) (nI d) := by
  unfold wpX_copyEachOther
  dsimp only
  rw [xl_q1, xl_q2, xl_q1, xl_q2]
  refine xl_pi (by omega) rfl ?_
  dsimp only
  refine xl_pi (e := e + 1) (by omega) rfl ?_
  dsimp only
  refine xl_pi (e := e + 2) (by omega) rfl ?_
  dsimp only
  refine xl_pi (e := e + 3) (by omega) rfl ?_
  dsimp only
  rw [xl_q1 e, xl_q1 (e + 1), xl_q1 (e + 2), xl_q1 (e + 3), xl_q2 e, xl_q2 (e + 1), xl_q2 (e + 2), xl_q2 (e + 3), xl_q0 e, xl_q0 (e + 1), xl_q0 (e + 2), xl_q0 (e + 3)]
  have i0 : fz_I h := hi
  have b0 : xl_b h := hb
  have t0_0 : h (md_p 0 e 0) = md_p 0 e 0 := ht e 0 (by omega) (by omega)
  have t0_1 : h (md_p 0 (e + 1) 0) = md_p 0 (e + 1) 0 := ht (e + 1) 0 (by omega) (by omega)
  have t1_1 : (md_M h (md_p 0 c 1) (md_p 0 e 0)) (md_p 0 (e + 1) 0) = md_p 0 (e + 1) 0 := md_Mk t0_1 (xl_pn (by omega) (by omega) (by omega)) (xl_pn (by omega) (by omega) (by omega))
  have t0_2 : h (md_p 0 (e + 2) 0) = md_p 0 (e + 2) 0 := ht (e + 2) 0 (by omega) (by omega)
  have t1_2 : (md_M h (md_p 0 c 1) (md_p 0 e 0)) (md_p 0 (e + 2) 0) = md_p 0 (e + 2) 0 := md_Mk t0_2 (xl_pn (by omega) (by omega) (by omega)) (xl_pn (by omega) (by omega) (by omega))
  have t2_2 : (md_M (md_M h (md_p 0 c 1) (md_p 0 e 0)) (md_p 0 c 2) (md_p 0 (e + 1) 0)) (md_p 0 (e + 2) 0) = md_p 0 (e + 2) 0 := md_Mk t1_2 (xl_pn (by omega) (by omega) (by omega)) (xl_pn (by omega) (by omega) (by omega))
  have t0_3 : h (md_p 0 (e + 3) 0) = md_p 0 (e + 3) 0 := ht (e + 3) 0 (by omega) (by omega)
  have t1_3 : (md_M h (md_p 0 c 1) (md_p 0 e 0)) (md_p 0 (e + 3) 0) = md_p 0 (e + 3) 0 := md_Mk t0_3 (xl_pn (by omega) (by omega) (by omega)) (xl_pn (by omega) (by omega) (by omega))
  have t2_3 : (md_M (md_M h (md_p 0 c 1) (md_p 0 e 0)) (md_p 0 c 2) (md_p 0 (e + 1) 0)) (md_p 0 (e + 3) 0) = md_p 0 (e + 3) 0 := md_Mk t1_3 (xl_pn (by omega) (by omega) (by omega)) (xl_pn (by omega) (by omega) (by omega))
  have t3_3 : (md_M (md_M (md_M h (md_p 0 c 1) (md_p 0 e 0)) (md_p 0 c 2) (md_p 0 (e + 1) 0)) (md_p 0 d 1) (md_p 0 (e + 2) 0)) (md_p 0 (e + 3) 0) = md_p 0 (e + 3) 0 := md_Mk t2_3 (xl_pn (by omega) (by omega) (by omega)) (xl_pn (by omega) (by omega) (by omega))
  have i1 : fz_I (md_M h (md_p 0 c 1) (md_p 0 e 0)) := md_Mi i0 t0_0 (xl_pn (by omega) (by omega) (by omega))
  have b1 : xl_b (md_M h (md_p 0 c 1) (md_p 0 e 0)) := xl_bM b0 (xl_pb (by omega) (by omega)) (xl_pb (by omega) (by omega))
  have i2 : fz_I (md_M (md_M h (md_p 0 c 1) (md_p 0 e 0)) (md_p 0 c 2) (md_p 0 (e + 1) 0)) := md_Mi i1 t1_1 (xl_pn (by omega) (by omega) (by omega))
  have b2 : xl_b (md_M (md_M h (md_p 0 c 1) (md_p 0 e 0)) (md_p 0 c 2) (md_p 0 (e + 1) 0)) := xl_bM b1 (xl_pb (by omega) (by omega)) (xl_pb (by omega) (by omega))
  have i3 : fz_I (md_M (md_M (md_M h (md_p 0 c 1) (md_p 0 e 0)) (md_p 0 c 2) (md_p 0 (e + 1) 0)) (md_p 0 d 1) (md_p 0 (e + 2) 0)) := md_Mi i2 t2_2 (xl_pn (by omega) (by omega) (by omega))
  have b3 : xl_b (md_M (md_M (md_M h (md_p 0 c 1) (md_p 0 e 0)) (md_p 0 c 2) (md_p 0 (e + 1) 0)) (md_p 0 d 1) (md_p 0 (e + 2) 0)) := xl_bM b2 (xl_pb (by omega) (by omega)) (xl_pb (by omega) (by omega))
  have i4 : fz_I (md_M (md_M (md_M (md_M h (md_p 0 c 1) (md_p 0 e 0)) (md_p 0 c 2) (md_p 0 (e + 1) 0)) (md_p 0 d 1) (md_p 0 (e + 2) 0)) (md_p 0 d 2) (md_p 0 (e + 3) 0)) := md_Mi i3 t3_3 (xl_pn (by omega) (by omega) (by omega))
  have b4 : xl_b (md_M (md_M (md_M (md_M h (md_p 0 c 1) (md_p 0 e 0)) (md_p 0 c 2) (md_p 0 (e + 1) 0)) (md_p 0 d 1) (md_p 0 (e + 2) 0)) (md_p 0 d 2) (md_p 0 (e + 3) 0)) := xl_bM b3 (xl_pb (by omega) (by omega)) (xl_pb (by omega) (by omega))
  refine xl_mv (xl_pb (by omega) (by omega)) (xl_pb (by omega) (by omega)) W i0 (xl_pn (by omega) (by omega) (by omega)) t0_0 (b0 _ (xl_pb (by omega) (by omega))) (fun rw1 W1 => ?_)
  dsimp only
  refine xl_mv (xl_pb (by omega) (by omega)) (xl_pb (by omega) (by omega)) W1 i1 (xl_pn (by omega) (by omega) (by omega)) t1_1 (b1 _ (xl_pb (by omega) (by omega))) (fun rw2 W2 => ?_)
  dsimp only
  refine xl_mv (xl_pb (by omega) (by omega)) (xl_pb (by omega) (by omega)) W2 i2 (xl_pn (by omega) (by omega) (by omega)) t2_2 (b2 _ (xl_pb (by omega) (by omega))) (fun rw3 W3 => ?_)
  dsimp only
  refine xl_mv (xl_pb (by omega) (by omega)) (xl_pb (by omega) (by omega)) W3 i3 (xl_pn (by omega) (by omega) (by omega)) t3_3 (b3 _ (xl_pb (by omega) (by omega))) (fun rw4 W4 => ?_)
  dsimp only
  refine xl_pj (xl_pb (by omega) (by omega)) (xl_pb (by omega) (by omega)) W4 (xl_pn (by omega) (by omega) (by omega)) (fun rw5 W5 => ?_)
  dsimp only
  refine xl_pj (xl_pb (by omega) (by omega)) (xl_pb (by omega) (by omega)) W5 (xl_pn (by omega) (by omega) (by omega)) (fun rw6 W6 => ?_)
  dsimp only
  refine xl_pj (xl_pb (by omega) (by omega)) (xl_pb (by omega) (by omega)) W6 (xl_pn (by omega) (by omega) (by omega)) (fun rw7 W7 => ?_)
  dsimp only
  refine xl_pj (xl_pb (by omega) (by omega)) (xl_pb (by omega) (by omega)) W7 (xl_pn (by omega) (by omega) (by omega)) (fun rw8 W8 => ?_)
  exact H rw8 W8
end
theorem md_Rh {o : Nat} {E : Nat → Prop} {U : Nat → Nat} {e : Nat} {rk : Nat → Int32} {h g : Nat → Nat} {N : fz_N} (R : md_R o E U e rk h g N) : fz_I h := by
  have hB := md_Bok R (g' := g) (k := 0) (fun c _ => rfl) (fun c h1 h2 => by omega)
  obtain ⟨ok, ⟨k6, k7⟩, r1, r2, r3, r4, r5, r6⟩ := R
  exact md_hi hB (md_DB e 0 rk) ok.1 r6
/-- nothing faces at the middle level: the net is at rest -/
theorem md_no {o : Nat} {E : Nat → Prop} {U : Nat → Nat} {e : Nat} {rk : Nat → Int32} {h g : Nat → Nat} {N : fz_N} (R : md_R o E U e rk h g N)
    (H : ∀ c c', c < e → c' < e → rk c ≠ -1 → rk c' ≠ -1 → c ≠ c' → h (md_p o c 0) ≠ md_p o c' 0) : fz_no N := by
  have hB := md_Bok R (g' := g) (k := 0) (fun c _ => rfl) (fun c h1 h2 => by omega)
  obtain ⟨ok, ⟨k6, k7⟩, r1, r2, r3, r4, r5, r6⟩ := R
  intro A B ac
  obtain ⟨c, c1, c2, rfl⟩ := r2 A ac.1
  obtain ⟨c', d1, d2, rfl⟩ := r2 B ac.2.1
  refine H c c' c1 d1 c2 d2 (fun z => ac.2.2.1 (z ▸ rfl)) ?_
  have dd : ∀ c, c < e → rk c ≠ -1 → md_D o E (md_v e rk) (md_p o c 0) := by
    intro c h1 h2
    have l : N.1 (g c) ≠ -1 := by rw [r1 c h1 h2]; exact h2
    have k3 := (ok.2 _ l).2.1
    rw [r1 c h1 h2] at k3
    refine md_Dp ?_ (by omega)
    unfold md_v
    rw [if_pos h1]
    rcases k3 with z | z | z <;> rw [z] <;> decide
  have Dc := dd c c1 c2
  have q := r6.1 _ Dc
  refine hB.1 _ _ (md_DB e 0 rk _ q.1) (md_DB e 0 rk _ (dd c' d1 d2)) ?_
  rw [← q.2, md_Pp (by omega), md_Pp (by omega)]
  exact ac.2.2.2
def xl_E (p : Nat) : Prop := 30 ≤ p ∧ p ≤ 33
def xl_U (p : Nat) : Nat := 6 * (16 + p / 3) + p % 3
def xl_R (n : Nat) (N : fz_N) (e l : Nat) (rk rw : Nat → Int32) (h g : Nat → Nat) : Prop := md_R 0 xl_E xl_U e rk h g N ∧ xl_W rw h ∧ N.2.2 = l + n ∧ 12 ≤ e ∧ e ≤ 12 + 4 * n
theorem xl_Rb {n : Nat} {N : fz_N} {e l : Nat} {rk rw : Nat → Int32} {h g : Nat → Nat} (R : xl_R n N e l rk rw h g) (hn : n ≤ 120) : xl_b h := by
  intro x hx
  have r6 := R.1.2.2.2.2.2.2.2
  by_cases d : md_D 0 xl_E (md_v e rk) x
  · have q := md_DB e 0 rk _ (r6.1 x d).1
    have h2 := R.2.2.2.2
    unfold xl_E at q
    omega
  · rw [r6.2 x d]
    exact hx
theorem xl_Rt {n : Nat} {N : fz_N} {e l : Nat} {rk rw : Nat → Int32} {h g : Nat → Nat} (R : xl_R n N e l rk rw h g) : ∀ t s, e ≤ t → s < 3 → h (md_p 0 t s) = md_p 0 t s := by
  intro t s ht hs
  have r6 := R.1.2.2.2.2.2.2.2
  refine r6.2 _ (fun z => ?_)
  have q := md_DB e 0 rk _ z
  have h1 := R.2.2.2.1
  unfold xl_E md_p at q
  omega
theorem md_uc {rk : Nat → Int32} {a b : Nat} (h : a ≠ b) : upd (upd rk b (-1)) a (-1) = upd (upd rk a (-1)) b (-1) := by
  funext x
  unfold upd
  by_cases c1 : x = a <;> by_cases c2 : x = b <;> simp only [c1, c2, if_true, if_false] <;> split <;> rfl
section
variable {fc fe fs fl fr : Int32} {ak aw rk rw ir re : Nat → Int32}
theorem xl_st {post : SX → Prop} {n : Nat} {N : fz_N} {e l : Nat} {h g : Nat → Nat} (R : xl_R n N e l rk rw h g) (hn : n < 120) {a b : Nat} (ha : a < e) (hb : b < e) (la : rk a ≠ -1) (lb : rk b ≠ -1) (hab : a ≠ b)
    (hh : h (md_p 0 a 0) = md_p 0 b 0)
    (H : ∀ e' l' rk' rw' h' g', xl_R (n + 1) (fz_st N (g a) (g b)) e' l' rk' rw' h' g' → post (fc, nI e', fs, nI l', fr, ak, aw, rk', rw', ir, re)) :
    wpX_takeStep post (fc, nI e, fs, nI l, fr, ak, aw, rk, rw, ir, re) (nI a) := by
  have R0 := R
  obtain ⟨M, W, eL, e12, e4⟩ := R
  have hbd := xl_Rb R0 (by omega)
  have hi := md_Rh M
  have hfr := xl_Rt R0
  have nba : b ≠ a := fun z => hab z.symm
  have hh' : h (md_p 0 b 0) = md_p 0 a 0 := by rw [← hh]; exact hi _
  obtain ⟨AC, k3a, k3b⟩ := md_face M ha hb la lb hab hh
  have pab : md_p 0 a 0 ≠ md_p 0 b 0 := xl_pn (by omega) (by omega) hab
  have pba : md_p 0 b 0 ≠ md_p 0 a 0 := fun z => pab z.symm
  unfold wpX_takeStep
  dsimp only
  rw [xl_q0, nI_clamp (show md_p 0 a 0 < 2 ^ 31 by unfold md_p; omega), nI_clamp (show a < 2 ^ 31 by omega), W _ (xl_pb (by omega) (by omega)), hh, md_fo_n pba, md_p0 b]
  have e3 : nI (3 * b) / 3 = nI b := by
    have := pk_div (a := 3 * b) (d := 3) (by omega) (by omega) (by omega)
    rw [show 3 * b / 3 = b by omega] at this
    exact this
  rw [e3]
  refine ⟨vp_in_nI (xl_pb (by omega) (by omega)) (by omega), by decide, nm_e ⟨vp_in_nI (by omega) (by omega), nm_e ⟨vp_in_nI (by omega) (by omega), ?_⟩⟩⟩
  rw [nI_clamp (show b < 2 ^ 31 by omega)]
  refine nm_e ?_
  refine xl_to (by omega) ?_
  dsimp only
  refine xl_to (by omega) ?_
  dsimp only
  rw [← md_p0 a, ← md_p0 b]
  have W1 : xl_W (upd (upd rw (md_p 0 a 0) (-1)) (md_p 0 b 0) (-1)) (fz_F h (md_p 0 a 0) (md_p 0 b 0)) := xl_Wl W hi pab hh
  have i1 : fz_I (fz_F h (md_p 0 a 0) (md_p 0 b 0)) := fz_inv hi pab
  have b1 : xl_b (fz_F h (md_p 0 a 0) (md_p 0 b 0)) := xl_bF hbd (xl_pb (by omega) (by omega)) (xl_pb (by omega) (by omega))
  have es : fz_F h (md_p 0 b 0) (md_p 0 a 0) = fz_F h (md_p 0 a 0) (md_p 0 b 0) := funext (fz_symm hi pba)
  have eu := md_uc (rk := rk) hab
  have fr1 : ∀ t s, e ≤ t → s < 3 → fz_F h (md_p 0 a 0) (md_p 0 b 0) (md_p 0 t s) = md_p 0 t s := fun t s ht hs => md_FK (hfr t s ht hs) (xl_pn hs (by omega) (by omega)) (xl_pn hs (by omega) (by omega)) (xl_pn hs (by omega) (by omega)) (xl_pn hs (by omega) (by omega))
  by_cases ck : rk a = rk b
  · refine br_t ck ?_
    by_cases c2 : rk a = 2
    · refine br_t c2 ?_
      have q := md_s0 M ha hb la lb hab hh c2 (ck ▸ c2)
      exact H _ _ _ _ _ _ ⟨q.1, W1, by rw [q.2, eL]; omega, e12, by omega⟩
    · refine br_f c2 ?_
      have q := md_s1 M ha hb la lb hab hh ck c2
      rw [xl_r1 a, xl_q1 b, xl_r2 a, xl_q2 b]
      refine xl_fu (xl_pb (by omega) (by omega)) (xl_pb (by omega) (by omega)) W1 i1 (xl_pn (by omega) (by omega) hab) (b1 _ (xl_pb (by omega) (by omega))) (b1 _ (xl_pb (by omega) (by omega))) rfl (fun rw2 W2 => ?_)
      dsimp only
      have i2 : fz_I (fz_F (fz_F h (md_p 0 a 0) (md_p 0 b 0)) (md_p 0 a 1) (md_p 0 b 1)) := fz_inv i1 (xl_pn (by omega) (by omega) hab)
      have b2 : xl_b (fz_F (fz_F h (md_p 0 a 0) (md_p 0 b 0)) (md_p 0 a 1) (md_p 0 b 1)) := xl_bF b1 (xl_pb (by omega) (by omega)) (xl_pb (by omega) (by omega))
      refine xl_fu (xl_pb (by omega) (by omega)) (xl_pb (by omega) (by omega)) W2 i2 (xl_pn (by omega) (by omega) hab) (b2 _ (xl_pb (by omega) (by omega))) (b2 _ (xl_pb (by omega) (by omega))) rfl (fun rw3 W3 => ?_)
      exact H _ _ _ _ _ _ ⟨q.1, W3, by rw [q.2, eL]; omega, e12, by omega⟩
  · refine br_f ck ?_
    by_cases ca : rk a = 2
    · refine br_t ca ?_
      have cb : rk b ≠ 2 := fun z => ck (ca.trans z.symm)
      obtain ⟨g', q1, q2⟩ := md_er M hb ha lb la nba hh' cb ca
      rw [es, eu, fz_st_sym M.1 (fz_acs M.1 AC)] at q1
      rw [fz_st_sym M.1 (fz_acs M.1 AC)] at q2
      refine xl_er (by omega) hb W1 i1 b1 (fr1 e 0 (by omega) (by omega)) (fr1 (e + 1) 0 (by omega) (by omega)) (fun rw2 W2 => ?_)
      exact H _ _ _ _ _ _ ⟨q1, W2, by rw [q2, eL]; omega, by omega, by omega⟩
    · refine br_f ca ?_
      by_cases cb : rk b = 2
      · refine br_t cb ?_
        obtain ⟨g', q1, q2⟩ := md_er M ha hb la lb hab hh ca cb
        refine xl_er (by omega) ha W1 i1 b1 (fr1 e 0 (by omega) (by omega)) (fr1 (e + 1) 0 (by omega) (by omega)) (fun rw2 W2 => ?_)
        exact H _ _ _ _ _ _ ⟨q1, W2, by rw [q2, eL]; omega, by omega, by omega⟩
      · refine br_f cb ?_
        by_cases c0 : rk a = 0
        · refine br_t c0 ?_
          have c1 : rk b = 1 := by
            rcases k3b with z | z | z
            · exact absurd (c0.trans z.symm) ck
            · exact z
            · exact absurd z cb
          obtain ⟨g', q1, q2⟩ := md_cp M ha hb la lb hab hh c0 c1
          refine xl_cp (by omega) ha hb hab W1 i1 b1 fr1 (fun rw2 W2 => ?_)
          exact H _ _ _ _ _ _ ⟨q1, W2, by rw [q2, eL]; omega, by omega, by omega⟩
        · refine br_f c0 ?_
          have c1 : rk a = 1 := by
            rcases k3a with z | z | z
            · exact absurd z c0
            · exact z
            · exact absurd z ca
          have d0 : rk b = 0 := by
            rcases k3b with z | z | z
            · exact z
            · exact absurd (c1.trans z.symm) ck
            · exact absurd z cb
          obtain ⟨g', q1, q2⟩ := md_cp M hb ha lb la nba hh' d0 c1
          rw [es, eu, fz_st_sym M.1 (fz_acs M.1 AC)] at q1
          rw [fz_st_sym M.1 (fz_acs M.1 AC)] at q2
          refine xl_cp (by omega) hb ha nba W1 i1 b1 fr1 (fun rw2 W2 => ?_)
          exact H _ _ _ _ _ _ ⟨q1, W2, by rw [q2, eL]; omega, by omega, by omega⟩
end
end
section
/-! the component's run -/
theorem xl_dv {p : Nat} (h : p < 2 ^ 31) : nI p / 3 = nI (p / 3) := pk_div (d := 3) h (by omega) (by omega)
theorem xl_rm {p : Nat} (h : p < 2 ^ 31) : nI p - nI p / 3 * 3 = nI (p % 3) := pk_rem (d := 3) h (by omega) (by omega)
def xl_F (rk : Nat → Int32) (h : Nat → Nat) (o e a b : Nat) : Prop := a < e ∧ b < e ∧ rk a ≠ -1 ∧ rk b ≠ -1 ∧ a ≠ b ∧ h (md_p o a 0) = md_p o b 0
section
variable {fc fs fl fr : Int32} {ak aw rk rw ir re : Nat → Int32}
theorem xl_hd {post : Int32 → Prop} {fe : Int32} {p x : Nat} (hx : p / 3 < 492) (h0 : (p = x ∨ p % 3 ≠ 0 ∨ rk (p / 3) = -1) → post 0) (h1 : p ≠ x → p % 3 = 0 → rk (p / 3) ≠ -1 → post 1) :
    wpX_isHead post (fc, fe, fs, fl, fr, ak, aw, rk, rw, ir, re) (md_fo x p) := by
  unfold wpX_isHead
  dsimp only
  by_cases c : p = x
  · rw [c, md_fo_s]
    exact br_t rfl (h0 (Or.inl c))
  · rw [md_fo_n c, xl_rm (by omega), xl_dv (by omega), nI_clamp (by omega)]
    refine br_f (xl_nm1 (by omega)) ⟨by decide, ?_⟩
    by_cases d : p % 3 = 0
    · rw [d]
      refine br_t nI_0 ⟨by decide, vp_in_nI hx (by omega), ?_⟩
      by_cases z : rk (p / 3) = -1
      · exact br_t z (h0 (Or.inr (Or.inr z)))
      · exact br_f z (h1 c d z)
    · exact br_f (nI_ne0 (by omega) (by omega)) (h0 (Or.inr (Or.inl d)))
theorem xl_fc {post : Int32 → Prop} {n : Nat} {N : fz_N} {e l : Nat} {h g : Nat → Nat} (R : xl_R n N e l rk rw h g) (hn : n ≤ 120) (h1 : fz_no N → post (-1)) (h2 : ∀ a b, xl_F rk h 0 e a b → post (nI a)) :
    wpX_facingCell post (fc, nI e, fs, nI l, fr, ak, aw, rk, rw, ir, re) := by
  have e4 := R.2.2.2.2
  have hb := xl_Rb R hn
  have key : ∀ d i, i + d = e → (∀ c c', c < i → c' < e → rk c ≠ -1 → rk c' ≠ -1 → c ≠ c' → h (md_p 0 c 0) ≠ md_p 0 c' 0) → wX_facingCell_2 post fc (nI e) fs (nI l) fr ak aw rk rw ir re (d + 1) (nI i) := by
    intro d
    induction d with
    | zero =>
      intro i hi hq
      refine br_t (nI_le (by omega) (by omega)) (h1 (md_no R.1 (fun c c' q1 q2 => hq c c' (by omega) q2)))
    | succ d ih =>
      intro i hi hq
      refine br_f (nI_ge (by omega) (by omega)) ⟨vp_in_nI (by omega) (by omega), ?_⟩
      rw [nI_clamp (show i < 2 ^ 31 by omega)]
      by_cases z : rk i = -1
      · refine br_t z (nm_r (nI_1 i) (ih (i + 1) (by omega) (fun c c' q1 q2 q3 => ?_)))
        by_cases ci : c = i
        · exact absurd (ci ▸ z) q3
        · exact hq c c' (by omega) q2 q3
      · refine br_f z ?_
        rw [xl_q0, nI_clamp (show md_p 0 i 0 < 2 ^ 31 by unfold md_p; omega), R.2.1 _ (xl_pb (by omega) (by omega))]
        refine ⟨vp_in_nI (xl_pb (by omega) (by omega)) (by omega), ?_⟩
        have pb := hb _ (xl_pb (show i < 492 by omega) (show 0 < 3 by omega))
        refine xl_hd (by omega) (fun nz => ?_) (fun n1 n2 n3 => ?_)
        · refine br_t rfl (nm_r (nI_1 i) (ih (i + 1) (by omega) (fun c c' q1 q2 q3 q4 q5 => ?_)))
          by_cases ci : c = i
          · subst ci
            intro w
            rw [w] at nz
            rcases nz with nz | nz | nz
            · exact q5 ((md_pe (by omega) (by omega)).mp nz).1.symm
            · unfold md_p at nz; omega
            · rw [show md_p 0 c' 0 / 3 = c' by unfold md_p; omega] at nz
              exact q4 nz
          · exact hq c c' (by omega) q2 q3 q4 q5
        · refine br_f (by decide) ?_
          have r1 := R.1.2.2.1
          have r4 := R.1.2.2.2.2.2.1
          have r6 := R.1.2.2.2.2.2.2.2
          have dd : md_D 0 xl_E (md_v e rk) (h (md_p 0 i 0)) := by
            by_cases q : md_D 0 xl_E (md_v e rk) (md_p 0 i 0)
            · exact (r6.1 _ q).1
            · exact absurd (r6.2 _ q) n1
          have q : h (md_p 0 i 0) / 3 < e := by
            rcases dd with dd | ⟨_, dd⟩
            · exact absurd ((r4 _ dd).1 (Nat.zero_le _)).2 n3
            · unfold md_v at dd
              by_cases q : (h (md_p 0 i 0) - 0) / 3 < e
              · exact q
              · rw [if_neg q] at dd
                omega
          have eh : h (md_p 0 i 0) = md_p 0 (h (md_p 0 i 0) / 3) 0 := by have zz := md_p0 (h (md_p 0 i 0) / 3); omega
          refine h2 i (h (md_p 0 i 0) / 3) ⟨by omega, q, z, n3, fun w => n1 ?_, eh⟩
          rw [eh, ← w]
  exact ⟨_, key e 0 (by omega) (fun c c' q => by omega)⟩
theorem xl_lp {post : Int32 → SX → Prop} {N0 : fz_N}
    (H : ∀ k N e l rk rw h g, k ≤ 120 → fz_pa k N0 N → xl_R k N e l rk rw h g → (fz_no N → post 1 (fc, nI e, nI k, nI l, fr, ak, aw, rk, rw, ir, re)) ∧ (k = 120 → ¬ fz_no N → post 0 (fc, nI e, nI k, nI l, fr, ak, aw, rk, rw, ir, re))) :
    ∀ d k N e l rk rw h g r, k + d = 120 → fz_pa k N0 N → xl_R k N e l rk rw h g → ((r = -1 ∧ fz_no N) ∨ ∃ a b, r = nI a ∧ xl_F rk h 0 e a b) → wX_runComesToRest_11 post (d + 1) (nI k) r fc (nI e) fs (nI l) fr ak aw rk rw ir re := by
  intro d
  induction d with
  | zero =>
    intro k N e l rk rw h g r hk pa R hr
    have HH := H k N e l rk rw h g (by omega) pa R
    have e4 := R.2.2.2.2
    refine br_t (nI_le (a := 120) (by omega) (by omega)) ?_
    unfold wX_runComesToRest_38
    rcases hr with ⟨r1, r2⟩ | ⟨a, b, r1, r2⟩
    · exact br_t r1 (HH.1 r2)
    · have := r2.1
      rw [r1]
      refine br_f (xl_nm1 (by omega)) (HH.2 (by omega) (fun no => ?_))
      exact no _ _ (md_face R.1 r2.1 r2.2.1 r2.2.2.1 r2.2.2.2.1 r2.2.2.2.2.1 r2.2.2.2.2.2).1
  | succ d ih =>
    intro k N e l rk rw h g r hk pa R hr
    have HH := H k N e l rk rw h g (by omega) pa R
    have e4 := R.2.2.2.2
    refine br_f (nI_ge (b := 120) (by omega) (by omega)) ?_
    rcases hr with ⟨r1, r2⟩ | ⟨a, b, r1, r2⟩
    · refine br_t r1 ?_
      unfold wX_runComesToRest_38
      exact br_t r1 (HH.1 r2)
    · obtain ⟨q1, q2, q3, q4, q5, q6⟩ := r2
      rw [r1]
      refine br_f (xl_nm1 (by omega)) ?_
      refine xl_st R (by omega) q1 q2 q3 q4 q5 q6 (fun e' l' rk' rw' h' g' R' => ?_)
      dsimp only
      refine nm_r (nI_1 k) ?_
      have pa' := fz_snoc k N0 N _ _ pa (md_face R.1 q1 q2 q3 q4 q5 q6).1
      refine xl_fc R' (by omega) (fun no => ?_) (fun a' b' f' => ?_)
      · exact ih (k + 1) _ e' l' rk' rw' h' g' _ (by omega) pa' R' (Or.inl ⟨rfl, no⟩)
      · exact ih (k + 1) _ e' l' rk' rw' h' g' _ (by omega) pa' R' (Or.inr ⟨a', b', rfl, f'⟩)
theorem xl_c2 {post : SX → Prop} {fe : Int32} {v : Nat → Int32} (H : ∀ rw', (∀ p, p < 1476 → rw' p = v p) → post (fc, 12, fs, 0, fr, ak, aw, rk, rw', ir, re)) (hv : ∀ p, p < 1476 → v p = if p < 34 then aw p else -1) :
    ∀ d i rw, i + d = 1476 → (∀ p, p < i → rw p = v p) → wX_copyNet_41 post fc fe fs fl fr (d + 1) (nI i) ak aw rk rw ir re := by
  intro d
  induction d with
  | zero =>
    intro i rw hi hq
    exact br_t (nI_le (a := 1476) (by omega) (by omega)) (H rw (fun p hp => hq p (by omega)))
  | succ d ih =>
    intro i rw hi hq
    refine br_f (nI_ge (b := 1476) (by omega) (by omega)) ?_
    rw [nI_clamp (show i < 2 ^ 31 by omega)]
    have stp : ∀ x, x = v i → (∀ p, p < i + 1 → upd rw i x p = v p) := by
      intro x ex p hp
      by_cases c : p = i
      · rw [c, pk_us, ex]
      · rw [pk_un c]; exact hq p (by omega)
    have vi := hv i (by omega)
    by_cases c : i < 34
    · rw [if_pos c] at vi
      exact br_f (nI_ge (b := 34) c (by omega)) ⟨vp_in_nI c (by omega), vp_in_nI (by omega) (by omega), nm_e (nm_r (nI_1 i) (ih (i + 1) _ (by omega) (stp _ vi.symm)))⟩
    · rw [if_neg c] at vi
      exact br_t (nI_le (a := 34) (by omega) (by omega)) ⟨vp_in_nI (by omega) (by omega), nm_e (nm_r (nI_1 i) (ih (i + 1) _ (by omega) (stp _ vi.symm)))⟩
theorem xl_c1 {post : SX → Prop} {fe : Int32} {c : Nat} {v u : Nat → Int32} (hc : c ≤ 10) (hfc : fc = nI c) (H : ∀ rk' rw', (∀ p, p < 492 → rk' p = u p) → (∀ p, p < 1476 → rw' p = v p) → post (fc, 12, fs, 0, fr, ak, aw, rk', rw', ir, re))
    (hv : ∀ p, p < 1476 → v p = if p < 34 then aw p else -1) (hu : ∀ p, p < 492 → u p = if p < c then ak p else -1) :
    ∀ d i rk, i + d = 492 → (∀ p, p < i → rk p = u p) → wX_copyNet_2 post fc fe fs fl fr (d + 1) (nI i) ak aw rk rw ir re := by
  subst hfc
  intro d
  induction d with
  | zero =>
    intro i rk hi hq
    refine br_t (nI_le (a := 492) (by omega) (by omega)) ⟨1477, ?_⟩
    have := xl_c2 (post := post) (fc := nI c) (fe := fe) (fs := fs) (fl := fl) (fr := fr) (ak := ak) (aw := aw) (rk := rk) (ir := ir) (re := re) (v := v) (fun rw' hw => H rk rw' (fun p hp => hq p (by omega)) hw) hv 1476 0 rw (by omega) (fun p hp => by omega)
    exact this
  | succ d ih =>
    intro i rk hi hq
    refine br_f (nI_ge (b := 492) (by omega) (by omega)) ?_
    rw [nI_clamp (show i < 2 ^ 31 by omega)]
    have stp : ∀ x, x = u i → (∀ p, p < i + 1 → upd rk i x p = u p) := by
      intro x ex p hp
      by_cases c : p = i
      · rw [c, pk_us, ex]
      · rw [pk_un c]; exact hq p (by omega)
    have vi := hu i (by omega)
    by_cases z : i < c
    · rw [if_pos z] at vi
      exact br_f (nI_ge (b := c) z (by omega)) ⟨vp_in_nI (by omega) (by omega), vp_in_nI (by omega) (by omega), nm_e (nm_r (nI_1 i) (ih (i + 1) _ (by omega) (stp _ vi.symm)))⟩
    · rw [if_neg z] at vi
      exact br_t (nI_le (a := c) (by omega) (by omega)) ⟨vp_in_nI (by omega) (by omega), nm_e (nm_r (nI_1 i) (ih (i + 1) _ (by omega) (stp _ vi.symm)))⟩
/-- a run of the component, from a net that its copy is -/
theorem xl_run {post : Int32 → SX → Prop} {fe : Int32} {c : Nat} {N0 : fz_N} {h0 g0 : Nat → Nat} (hc : c ≤ 10) (hfc : fc = nI c)
    (R0 : ∀ rk' rw', (∀ p, p < 492 → rk' p = if p < c then ak p else -1) → (∀ p, p < 1476 → rw' p = if p < 34 then aw p else -1) → xl_R 0 N0 12 0 rk' rw' h0 g0)
    (H : ∀ k N e l rk rw h g, k ≤ 120 → fz_pa k N0 N → xl_R k N e l rk rw h g → (fz_no N → post 1 (fc, nI e, nI k, nI l, fr, ak, aw, rk, rw, ir, re)) ∧ (k = 120 → ¬ fz_no N → post 0 (fc, nI e, nI k, nI l, fr, ak, aw, rk, rw, ir, re))) :
    wpX_runComesToRest post (fc, fe, fs, fl, fr, ak, aw, rk, rw, ir, re) := by
  unfold wpX_runComesToRest
  dsimp only
  unfold wpX_copyNet
  dsimp only
  refine ⟨493, ?_⟩
  refine xl_c1 (u := fun p => if p < c then ak p else -1) (v := fun p => if p < 34 then aw p else -1) hc hfc (fun rk' rw' h1 h2 => ?_) (fun p _ => rfl) (fun p _ => rfl) 492 0 rk (by omega) (fun p hp => by omega)
  dsimp only
  have R := R0 rk' rw' h1 h2
  refine xl_fc R (by omega) (fun no => ?_) (fun a b f => ?_)
  · exact ⟨121, xl_lp H 120 0 N0 12 0 rk' rw' h0 g0 _ (by omega) rfl R (Or.inl ⟨rfl, no⟩)⟩
  · exact ⟨121, xl_lp H 120 0 N0 12 0 rk' rw' h0 g0 _ (by omega) rfl R (Or.inr ⟨a, b, rfl, f⟩)⟩
end
end
section
/-! the reference's list of wires -/
def yl_G (m : Nat) (f s h : Nat → Nat) : Prop :=
  (∀ i, i < m → f i < 2000 ∧ s i < 2000 ∧ f i ≠ s i ∧ h (f i) = s i ∧ h (s i) = f i) ∧ (∀ p, h p ≠ p → ∃ i, i < m ∧ (f i = p ∨ s i = p)) ∧
  (∀ i j, i < m → j < m → f i = f j → i = j) ∧ (∀ i j, i < m → j < m → f i ≠ s j)
def yl_A (m : Nat) (fs ss : Nat → Int32) (f s : Nat → Nat) : Prop := ∀ i, i < m → fs i = nI (f i) ∧ ss i = nI (s i)
def yl_W (m : Nat) (fs ss : Nat → Int32) (h : Nat → Nat) : Prop := ∃ f s : Nat → Nat, yl_A m fs ss f s ∧ yl_G m f s h
def yl_C (h : Nat → Nat) (p q x : Nat) : Nat := if x = p then p else if x = q then q else h x
theorem yl_ss {m : Nat} {f s h : Nat → Nat} (G : yl_G m f s h) {i j : Nat} (hi : i < m) (hj : j < m) (e : s i = s j) : i = j := by
  refine G.2.2.1 i j hi hj ?_
  rw [← (G.1 i hi).2.2.2.2, ← (G.1 j hj).2.2.2.2, e]
theorem yl_Gt {m : Nat} {f s h : Nat → Nat} (G : yl_G m f s h) {i : Nat} (hi : i < m) :
    yl_G (m - 1) (fun j => f (if j = i then m - 1 else j)) (fun j => s (if j = i then m - 1 else j)) (yl_C h (f i) (s i)) := by
  have sg : ∀ j, j < m - 1 → (if j = i then m - 1 else j) < m ∧ (if j = i then m - 1 else j) ≠ i := by
    intro j hj
    split <;> omega
  refine ⟨fun j hj => ?_, fun p hp => ?_, fun j j' hj hj' e => ?_, fun j j' hj hj' => ?_⟩
  · obtain ⟨q1, q2⟩ := sg j hj
    have a := G.1 _ q1
    have b := G.1 i hi
    have n1 : f (if j = i then m - 1 else j) ≠ f i := fun z => q2 (G.2.2.1 _ _ q1 hi z)
    have n2 : f (if j = i then m - 1 else j) ≠ s i := G.2.2.2 _ _ q1 hi
    have n3 : s (if j = i then m - 1 else j) ≠ f i := fun z => G.2.2.2 _ _ hi q1 z.symm
    have n4 : s (if j = i then m - 1 else j) ≠ s i := fun z => q2 (yl_ss G q1 hi z)
    refine ⟨a.1, a.2.1, a.2.2.1, ?_, ?_⟩
    · unfold yl_C
      rw [if_neg n1, if_neg n2]
      exact a.2.2.2.1
    · unfold yl_C
      rw [if_neg n3, if_neg n4]
      exact a.2.2.2.2
  · unfold yl_C at hp
    by_cases c1 : p = f i
    · rw [if_pos c1] at hp
      exact absurd c1.symm hp
    · rw [if_neg c1] at hp
      by_cases c2 : p = s i
      · rw [if_pos c2] at hp
        exact absurd c2.symm hp
      · rw [if_neg c2] at hp
        obtain ⟨k, hk, ek⟩ := G.2.1 p hp
        have ki : k ≠ i := by
          intro z
          subst z
          exact ek.elim (fun z => c1 z.symm) (fun z => c2 z.symm)
        refine ⟨if k = m - 1 then i else k, ?_, ?_⟩
        · split <;> omega
        · have e : (if (if k = m - 1 then i else k) = i then m - 1 else (if k = m - 1 then i else k)) = k := by
            by_cases z : k = m - 1
            · rw [if_pos z, if_pos rfl, z]
            · rw [if_neg z, if_neg ki]
          show f _ = p ∨ s _ = p
          rw [e]
          exact ek
  · have e' := G.2.2.1 _ _ (sg j hj).1 (sg j' hj').1 e
    revert e'
    split <;> split <;> omega
  · exact G.2.2.2 _ _ (sg j hj).1 (sg j' hj').1
theorem yl_At {m : Nat} {fs ss : Nat → Int32} {f s : Nat → Nat} (A : yl_A m fs ss f s) {i : Nat} (hi : i < m) :
    yl_A (m - 1) (upd fs i (fs (m - 1))) (upd ss i (ss (m - 1))) (fun j => f (if j = i then m - 1 else j)) (fun j => s (if j = i then m - 1 else j)) := by
  intro j hj
  dsimp only
  by_cases c : j = i
  · rw [if_pos c, c, pk_us, pk_us]
    exact A (m - 1) (by omega)
  · rw [if_neg c, pk_un c, pk_un c]
    exact A j (by omega)
theorem yl_Ga {m : Nat} {f s h : Nat → Nat} (G : yl_G m f s h) {p q : Nat} (hp : h p = p) (hq : h q = q) (hpq : p ≠ q) (p2 : p < 2000) (q2 : q < 2000) :
    yl_G (m + 1) (fun j => if j = m then p else f j) (fun j => if j = m then q else s j) (md_J h p q) := by
  have nf : ∀ j, j < m → f j ≠ p ∧ f j ≠ q ∧ s j ≠ p ∧ s j ≠ q := by
    intro j hj
    have a := G.1 j hj
    refine ⟨fun z => a.2.2.1 ?_, fun z => a.2.2.1 ?_, fun z => a.2.2.1 ?_, fun z => a.2.2.1 ?_⟩
    · rw [← a.2.2.2.1, z, hp]
    · rw [← a.2.2.2.1, z, hq]
    · rw [← a.2.2.2.2, z, hp]
    · rw [← a.2.2.2.2, z, hq]
  have nqp : ¬ q = p := fun z => hpq z.symm
  refine ⟨fun j hj => ?_, fun x hx => ?_, fun j j' hj hj' e => ?_, fun j j' hj hj' e => ?_⟩
  · by_cases c : j = m
    · dsimp only
      unfold md_J
      rw [if_pos c, if_pos c, if_pos rfl, if_neg nqp, if_pos rfl]
      exact ⟨p2, q2, hpq, rfl, rfl⟩
    · have a := G.1 j (by omega)
      have n := nf j (by omega)
      dsimp only
      unfold md_J
      rw [if_neg c, if_neg c, if_neg n.1, if_neg n.2.1, if_neg n.2.2.1, if_neg n.2.2.2]
      exact a
  · unfold md_J at hx
    by_cases c1 : x = p
    · exact ⟨m, by omega, Or.inl (by dsimp only; rw [if_pos rfl, c1])⟩
    · by_cases c2 : x = q
      · exact ⟨m, by omega, Or.inr (by dsimp only; rw [if_pos rfl, c2])⟩
      · rw [if_neg c1, if_neg c2] at hx
        obtain ⟨i, hi, ei⟩ := G.2.1 x hx
        refine ⟨i, by omega, ?_⟩
        dsimp only
        rw [if_neg (by omega), if_neg (by omega)]
        exact ei
  · dsimp only at e
    by_cases c : j = m
    · by_cases d : j' = m
      · omega
      · rw [if_pos c, if_neg d] at e
        exact absurd e.symm (nf j' (by omega)).1
    · by_cases d : j' = m
      · rw [if_neg c, if_pos d] at e
        exact absurd e (nf j (by omega)).1
      · rw [if_neg c, if_neg d] at e
        exact G.2.2.1 j j' (by omega) (by omega) e
  · dsimp only at e
    by_cases c : j = m
    · by_cases d : j' = m
      · rw [if_pos c, if_pos d] at e
        exact hpq e
      · rw [if_pos c, if_neg d] at e
        exact (nf j' (by omega)).2.2.1 e.symm
    · by_cases d : j' = m
      · rw [if_neg c, if_pos d] at e
        exact (nf j (by omega)).2.1 e
      · rw [if_neg c, if_neg d] at e
        exact G.2.2.2 j j' (by omega) (by omega) e
theorem yl_Aa {m : Nat} {fs ss : Nat → Int32} {f s : Nat → Nat} (A : yl_A m fs ss f s) {p q : Nat} :
    yl_A (m + 1) (upd fs m (nI p)) (upd ss m (nI q)) (fun j => if j = m then p else f j) (fun j => if j = m then q else s j) := by
  intro j hj
  dsimp only
  by_cases c : j = m
  · rw [if_pos c, if_pos c, c, pk_us, pk_us]
    exact ⟨rfl, rfl⟩
  · rw [if_neg c, if_neg c, pk_un c, pk_un c]
    exact A j (by omega)
theorem yl_Gf {m : Nat} {f s h : Nat → Nat} (G : yl_G m f s h) {i t : Nat} (hi : i < m) (ht : h t = t) (t2 : t < 2000) :
    yl_G m (fun j => if j = i then t else f j) s (md_M h (f i) t) := by
  have nt : ∀ j, j < m → f j ≠ t ∧ s j ≠ t := by
    intro j hj
    have a := G.1 j hj
    refine ⟨fun z => a.2.2.1 ?_, fun z => a.2.2.1 ?_⟩
    · rw [← a.2.2.2.1, z, ht]
    · rw [← a.2.2.2.2, z, ht]
  have b := G.1 i hi
  have ntf : ¬ t = f i := fun z => (nt i hi).1 z.symm
  have nsf : ¬ s i = f i := fun z => b.2.2.1 z.symm
  refine ⟨fun j hj => ?_, fun x hx => ?_, fun j j' hj hj' e => ?_, fun j j' hj hj' e => ?_⟩
  · have a := G.1 j hj
    by_cases c : j = i
    · subst c
      dsimp only
      rw [if_pos rfl]
      refine ⟨t2, a.2.1, fun z => (nt j hj).2 z.symm, ?_, ?_⟩
      · unfold md_M
        rw [if_neg ntf, if_pos rfl, a.2.2.2.1, if_neg nsf]
      · unfold md_M
        rw [if_neg nsf, if_neg (nt j hj).2, a.2.2.2.2, if_pos rfl]
    · dsimp only
      rw [if_neg c]
      have n1 : ¬ f j = f i := fun z => c (G.2.2.1 j i hj hi z)
      have n2 : ¬ s j = f i := fun z => G.2.2.2 i j hi hj z.symm
      refine ⟨a.1, a.2.1, a.2.2.1, ?_, ?_⟩
      · unfold md_M
        rw [if_neg n1, if_neg (nt j hj).1, a.2.2.2.1, if_neg n2]
      · unfold md_M
        rw [if_neg n2, if_neg (nt j hj).2, a.2.2.2.2, if_neg n1]
  · unfold md_M at hx
    by_cases c1 : x = f i
    · rw [if_pos c1] at hx
      exact absurd c1.symm hx
    · rw [if_neg c1] at hx
      by_cases c2 : x = t
      · exact ⟨i, hi, Or.inl (by dsimp only; rw [if_pos rfl, c2])⟩
      · rw [if_neg c2] at hx
        have hx' : h x ≠ x := by
          intro z
          rw [z, if_neg c1] at hx
          exact hx rfl
        obtain ⟨k, hk, ek⟩ := G.2.1 x hx'
        refine ⟨k, hk, ?_⟩
        dsimp only
        by_cases c : k = i
        · subst c
          exact ek.elim (fun z => absurd z.symm c1) Or.inr
        · rw [if_neg c]
          exact ek
  · dsimp only at e
    by_cases c : j = i
    · by_cases d : j' = i
      · omega
      · rw [if_pos c, if_neg d] at e
        exact absurd e.symm (nt j' hj').1
    · by_cases d : j' = i
      · rw [if_neg c, if_pos d] at e
        exact absurd e (nt j hj).1
      · rw [if_neg c, if_neg d] at e
        exact G.2.2.1 j j' hj hj' e
  · dsimp only at e
    by_cases c : j = i
    · rw [if_pos c] at e
      exact (nt j' hj').2 e.symm
    · rw [if_neg c] at e
      exact G.2.2.2 j j' hj hj' e
/-- the list read the other way round -/
theorem yl_Gr {m : Nat} {f s h : Nat → Nat} (G : yl_G m f s h) : yl_G m s f h := by
  refine ⟨fun i hi => ?_, fun p hp => ?_, fun i j hi hj e => yl_ss G hi hj e, fun i j hi hj e => G.2.2.2 j i hj hi e.symm⟩
  · have a := G.1 i hi
    exact ⟨a.2.1, a.1, fun z => a.2.2.1 z.symm, a.2.2.2.2, a.2.2.2.1⟩
  · obtain ⟨i, hi, e⟩ := G.2.1 p hp
    exact ⟨i, hi, e.symm⟩
theorem yl_Af {m : Nat} {fs ss : Nat → Int32} {f s : Nat → Nat} (A : yl_A m fs ss f s) {i t : Nat} : yl_A m (upd fs i (nI t)) ss (fun j => if j = i then t else f j) s := by
  intro j hj
  dsimp only
  by_cases c : j = i
  · rw [if_pos c, c, pk_us]
    exact ⟨rfl, (A i (by omega)).2⟩
  · rw [if_neg c, pk_un c]
    exact A j hj
theorem yl_Ar {m : Nat} {fs ss : Nat → Int32} {f s : Nat → Nat} (A : yl_A m fs ss f s) : yl_A m ss fs s f := fun i hi => ⟨(A i hi).2, (A i hi).1⟩
theorem yl_Wr {m : Nat} {fs ss : Nat → Int32} {h : Nat → Nat} (W : yl_W m fs ss h) : yl_W m ss fs h := by
  obtain ⟨f, s, A, G⟩ := W
  exact ⟨s, f, yl_Ar A, yl_Gr G⟩
section
variable {gc gw ge gl gs : Int32} {bk bf bs rk rf rs mt : Nat → Int32}
theorem yl_wo {post : Int32 → Prop} {m q : Nat} {f s h : Nat → Nat} (hm : m ≤ 520) (hq : q < 2000) (A : yl_A m rf rs f s) (G : yl_G m f s h) (h0 : h q = q → post (-1)) (h1 : ∀ i, i < m → (f i = q ∨ (f i ≠ q ∧ s i = q)) → post (nI i)) :
    wpY_runWireOf post (gc, gw, ge, nI m, gl, gs, bk, bf, bs, rk, rf, rs, mt) (nI q) := by
  have key : ∀ d i, i + d = m → (∀ j, j < i → f j ≠ q ∧ s j ≠ q) → wY_runWireOf_2 post (nI q) gc gw ge (nI m) gl gs bk bf bs rk rf rs mt (d + 1) (nI i) := by
    intro d
    induction d with
    | zero =>
      intro i hi hj
      refine br_t (nI_le (by omega) (by omega)) (h0 ?_)
      by_cases z : h q = q
      · exact z
      · obtain ⟨j, hjm, e⟩ := G.2.1 q z
        have := hj j (by omega)
        exact absurd e (fun e => e.elim this.1 this.2)
    | succ d ih =>
      intro i hi hj
      have a := A i (by omega)
      have b := G.1 i (by omega)
      refine br_f (nI_ge (by omega) (by omega)) ⟨vp_in_nI (by omega) (by omega), ?_⟩
      rw [nI_clamp (show i < 2 ^ 31 by omega), a.1, a.2]
      by_cases c : f i = q
      · exact br_t (by rw [c]) (h1 i (by omega) (Or.inl c))
      · refine br_f (fun z => c ((nI_eq (by omega) (by omega)).mp z)) ⟨vp_in_nI (by omega) (by omega), ?_⟩
        by_cases d : s i = q
        · exact br_t (by rw [d]) (h1 i (by omega) (Or.inr ⟨c, d⟩))
        · refine br_f (fun z => d ((nI_eq (by omega) (by omega)).mp z)) (nm_r (nI_1 i) (ih (i + 1) (by omega) (fun j hj' => ?_)))
          by_cases e : j = i
          · rw [e]; exact ⟨c, d⟩
          · exact hj j (by omega)
  exact ⟨_, key m 0 (by omega) (fun j hj => by omega)⟩
theorem yl_ac {post : Int32 → Prop} {m q : Nat} {h : Nat → Nat} (hm : m ≤ 520) (hq : q < 2000) (W : yl_W m rf rs h) (H : post (md_fo q (h q))) : wpY_across post (gc, gw, ge, nI m, gl, gs, bk, bf, bs, rk, rf, rs, mt) (nI q) := by
  obtain ⟨f, s, A, G⟩ := W
  unfold wpY_across
  dsimp only
  refine yl_wo hm hq A G (fun z => ?_) (fun i hi z => ?_)
  · rw [z, md_fo_s] at H
    exact br_f (by decide) H
  · have a := A i hi
    have b := G.1 i hi
    refine br_t (nI_pos' (by omega)) ⟨vp_in_nI (by omega) (by omega), ?_⟩
    rw [nI_clamp (show i < 2 ^ 31 by omega), a.1, a.2]
    rcases z with z | ⟨z1, z2⟩
    · refine br_t (by rw [z]) ⟨vp_in_nI (by omega) (by omega), ?_⟩
      rw [← z, b.2.2.2.1, md_fo_n (fun z => b.2.2.1 z.symm)] at H
      exact H
    · refine br_f (fun z => z1 ((nI_eq (by omega) (by omega)).mp z)) ⟨vp_in_nI (by omega) (by omega), ?_⟩
      rw [← z2, b.2.2.2.2, md_fo_n b.2.2.1] at H
      exact H
theorem yl_tw {post : SY → Prop} {m i : Nat} {f s h : Nat → Nat} (hm : m ≤ 520) (hi : i < m) (A : yl_A m rf rs f s) (G : yl_G m f s h)
    (H : ∀ rf' rs', yl_W (m - 1) rf' rs' (yl_C h (f i) (s i)) → post (gc, gw, ge, nI (m - 1), gl, gs, bk, bf, bs, rk, rf', rs', mt)) : wpY_takeWire post (gc, gw, ge, nI m, gl, gs, bk, bf, bs, rk, rf, rs, mt) (nI i) := by
  unfold wpY_takeWire
  dsimp only
  have e1 : nI m - 1 = nI (m - 1) := by
    have := nI_pred (m - 1)
    rw [show m - 1 + 1 = m by omega] at this
    exact this
  rw [e1]
  refine nm_e ?_
  rw [nI_clamp (show i < 2 ^ 31 by omega), nI_clamp (show m - 1 < 2 ^ 31 by omega)]
  exact ⟨vp_in_nI (by omega) (by omega), vp_in_nI (by omega) (by omega), nm_e ⟨vp_in_nI (by omega) (by omega), vp_in_nI (by omega) (by omega), nm_e (H _ _ ⟨_, _, yl_At A hi, yl_Gt G hi⟩)⟩⟩
theorem yl_aw {post : SY → Prop} {m p q : Nat} {h : Nat → Nat} (hm : m < 520) (W : yl_W m rf rs h) (hp : h p = p) (hq : h q = q) (hpq : p ≠ q) (p2 : p < 2000) (q2 : q < 2000)
    (H : ∀ rf' rs', yl_W (m + 1) rf' rs' (md_J h p q) → post (gc, gw, ge, nI (m + 1), gl, gs, bk, bf, bs, rk, rf', rs', mt)) : wpY_addWire post (gc, gw, ge, nI m, gl, gs, bk, bf, bs, rk, rf, rs, mt) (nI p) (nI q) := by
  obtain ⟨f, s, A, G⟩ := W
  unfold wpY_addWire
  dsimp only
  rw [nI_clamp (show m < 2 ^ 31 by omega), xl_a1]
  exact ⟨vp_in_nI hm (by omega), nm_e ⟨vp_in_nI hm (by omega), nm_e (nm_e (H _ _ ⟨_, _, yl_Aa A, yl_Ga G hp hq hpq p2 q2⟩))⟩⟩
theorem yl_Mo {h : Nat → Nat} {p t : Nat} (hi : fz_I h) (hp : h p = p) (ht : h t = t) : md_M h p t = h := by
  funext x
  have hx := hi x
  unfold md_M
  grind
theorem yl_mv {post : SY → Prop} {m p t : Nat} {h : Nat → Nat} (hm : m ≤ 520) (W : yl_W m rf rs h) (hi : fz_I h) (p2 : p < 2000) (t2 : t < 2000) (ht : h t = t)
    (H : ∀ rf' rs', yl_W m rf' rs' (md_M h p t) → post (gc, gw, ge, nI m, gl, gs, bk, bf, bs, rk, rf', rs', mt)) : wpY_move post (gc, gw, ge, nI m, gl, gs, bk, bf, bs, rk, rf, rs, mt) (nI p) (nI t) := by
  obtain ⟨f, s, A, G⟩ := W
  unfold wpY_move
  dsimp only
  refine yl_wo hm p2 A G (fun z => ?_) (fun i hi' z => ?_)
  · refine br_t (by decide) ?_
    unfold wY_move_30
    refine br_t (by decide) (H _ _ ?_)
    rw [yl_Mo hi z ht]
    exact ⟨f, s, A, G⟩
  · have a := A i hi'
    have b := G.1 i hi'
    refine br_f (nI_pos (by omega)) ⟨vp_in_nI (by omega) (by omega), ?_⟩
    rw [nI_clamp (show i < 2 ^ 31 by omega), a.1]
    rcases z with z | ⟨z1, z2⟩
    · refine br_t (by rw [z]) ⟨vp_in_nI (by omega) (by omega), nm_e (H _ _ ?_)⟩
      rw [← z]
      exact ⟨_, _, yl_Af A, yl_Gf G hi' ht t2⟩
    · refine br_f (fun z => z1 ((nI_eq (by omega) (by omega)).mp z)) ?_
      unfold wY_move_30
      refine br_f (nI_pos (by omega)) ⟨vp_in_nI (by omega) (by omega), ?_⟩
      rw [nI_clamp (show i < 2 ^ 31 by omega)]
      refine nm_e (H _ _ ?_)
      rw [← z2]
      exact ⟨_, _, yl_Ar (yl_Af (yl_Ar A)), yl_Gr (yl_Gf (yl_Gr G) hi' ht t2)⟩
theorem yl_Ce {h : Nat → Nat} {p q : Nat} (hpq : p ≠ q) : yl_C h q p = yl_C h p q := by
  funext x
  unfold yl_C
  grind
theorem yl_Cl {h : Nat → Nat} {p q : Nat} (hi : fz_I h) (hpq : p ≠ q) (e : h p = q) : yl_C h p q = fz_F h p q := by
  funext x
  have hx := hi x
  have hp := hi p
  unfold yl_C fz_F
  grind
theorem yl_C0 {h : Nat → Nat} {p q : Nat} (hi : fz_I h) (hpq : p ≠ q) (e : h p = p) (d : h q = q) : h = fz_F h p q := by
  funext x
  have hx := hi x
  unfold fz_F
  grind
theorem yl_C1 {h : Nat → Nat} {p q : Nat} (hi : fz_I h) (hpq : p ≠ q) (e : h p = p) (d : h q ≠ q) : yl_C h q (h q) = fz_F h p q := by
  funext x
  have hx := hi x
  have hq := hi q
  unfold yl_C fz_F
  grind
theorem yl_C2 {h : Nat → Nat} {p q : Nat} (hi : fz_I h) (hpq : p ≠ q) (b : h p ≠ q) (e : h p ≠ p) (d : h q = q) : yl_C h p (h p) = fz_F h p q := by
  funext x
  have hx := hi x
  have hp := hi p
  unfold yl_C fz_F
  grind
theorem yl_C3 {h : Nat → Nat} {p q : Nat} (hi : fz_I h) (hpq : p ≠ q) (b : h p ≠ q) (e : h p ≠ p) (d : h q ≠ q) : md_J (yl_C (yl_C h p (h p)) q (h q)) (h p) (h q) = fz_F h p q := by
  funext x
  have hx := hi x
  have hp := hi p
  have hq := hi q
  unfold md_J yl_C fz_F
  grind
theorem yl_C4 {h : Nat → Nat} {p q : Nat} (b : h p ≠ q) (hpq : p ≠ q) : yl_C h p (h p) q = h q := by
  unfold yl_C
  rw [if_neg (fun z => hpq z.symm), if_neg (fun z => b z.symm)]
/-- a port's wire, if it has one, is taken away -/
theorem yl_dr {K : Int32 → Prop} {m p : Nat} {h : Nat → Nat} {Q : SY → Prop} (hm : m ≤ 520) (p2 : p < 2000) (W : yl_W m rf rs h)
    (h0 : h p = p → Q (gc, gw, ge, nI m, gl, gs, bk, bf, bs, rk, rf, rs, mt)) (h1 : h p ≠ p → 1 ≤ m → ∀ rf' rs', yl_W (m - 1) rf' rs' (yl_C h p (h p)) → Q (gc, gw, ge, nI (m - 1), gl, gs, bk, bf, bs, rk, rf', rs', mt))
    (hK0 : Q (gc, gw, ge, nI m, gl, gs, bk, bf, bs, rk, rf, rs, mt) → K (-1)) (hK1 : ∀ i, i < m → wpY_takeWire Q (gc, gw, ge, nI m, gl, gs, bk, bf, bs, rk, rf, rs, mt) (nI i) → K (nI i)) : wpY_runWireOf K (gc, gw, ge, nI m, gl, gs, bk, bf, bs, rk, rf, rs, mt) (nI p) := by
  obtain ⟨f, s, A, G⟩ := W
  refine yl_wo hm p2 A G (fun z => hK0 (h0 z)) (fun i hi' z => hK1 i hi' ?_)
  have b := G.1 i hi'
  refine yl_tw hm hi' A G (fun rf' rs' W' => ?_)
  rcases z with z | ⟨z1, z2⟩
  · have e : h p = s i := by rw [← z]; exact b.2.2.2.1
    rw [z] at W'
    refine h1 (fun z' => b.2.2.1 ?_) (by omega) rf' rs' ?_
    · rw [z, ← e, z']
    · rw [e]; exact W'
  · have e : h p = f i := by rw [← z2]; exact b.2.2.2.2
    rw [z2, ← e] at W'
    refine h1 (fun z' => z1 ?_) (by omega) rf' rs' ?_
    · rw [← e, z']
    · rw [← yl_Ce (fun z' => z1 (e ▸ z'.symm))]; exact W'
end
end
section
/-! the reference's step -/
def yl_E (p : Nat) : Prop := p < 4
def yl_U (p : Nat) : Nat := if p < 3 then 156 + p else 162
def yl_b (h : Nat → Nat) : Prop := ∀ x, x < 2000 → h x < 2000
theorem yl_bF {h : Nat → Nat} (H : yl_b h) {p q : Nat} (hp : p < 2000) (hq : q < 2000) : yl_b (fz_F h p q) := by
  intro x hx
  have a := H x hx
  have b := H p hp
  have c := H q hq
  unfold fz_F
  repeat' split
  all_goals assumption
theorem yl_bM {h : Nat → Nat} (H : yl_b h) {p t : Nat} (hp : p < 2000) (ht : t < 2000) : yl_b (md_M h p t) := by
  intro x hx
  have a := H x hx
  have b := H p hp
  unfold md_M
  repeat' split
  all_goals assumption
theorem yl_pb {c s : Nat} (hc : c < 600) (hs : s < 3) : md_p 4 c s < 2000 := by unfold md_p; omega
theorem yl_pn {c s c' s' : Nat} (hs : s < 3) (hs' : s' < 3) (h : c ≠ c') : md_p 4 c s ≠ md_p 4 c' s' := fun z => h ((md_pe hs hs').mp z).1
theorem yl_ps {c s s' : Nat} (hs : s < 3) (hs' : s' < 3) (h : s ≠ s') : md_p 4 c s ≠ md_p 4 c s' := fun z => h ((md_pe hs hs').mp z).2
theorem yl_q {c s : Nat} : (4 + 3 * nI c) + nI s = nI (md_p 4 c s) := by
  rw [xl_3, show (4 : Int32) + nI (3 * c) = nI (4 + 3 * c) from nI_add 4 _, nI_add]; rfl
theorem yl_q1 {c : Nat} : (4 + 3 * nI c) + 1 = nI (md_p 4 c 1) := yl_q (s := 1)
theorem yl_q2 {c : Nat} : (4 + 3 * nI c) + 2 = nI (md_p 4 c 2) := yl_q (s := 2)
theorem yl_r2 {c : Nat} : nI (md_p 4 c 1) + 1 = nI (md_p 4 c 2) := by rw [xl_a1]; rfl
theorem yl_cel {c : Nat} (hc : c < 600) : (nI (md_p 4 c 0) - 4) / 3 = nI c := by
  rw [show nI (md_p 4 c 0) - 4 = nI (md_p 4 c 0 - 4) from pk_sub (b := 4) (by unfold md_p; omega), xl_dv (by unfold md_p; omega)]
  congr 1
  unfold md_p; omega
theorem md_Mc {h : Nat → Nat} {p t p' t' : Nat} (hi : fz_I h) (ht : h t = t) (ht' : h t' = t') (a1 : p ≠ t) (a2 : p ≠ p') (a3 : p ≠ t') (a4 : t ≠ p') (a5 : t ≠ t') (a6 : p' ≠ t') : md_M (md_M h p t) p' t' = md_M (md_M h p' t') p t := by
  funext x
  have hx := hi x
  have hp := hi p
  have hp' := hi p'
  unfold md_M
  grind (splits := 40)
theorem md_Jk {h : Nat → Nat} {s t x : Nat} (hx : h x = x) (h1 : x ≠ s) (h2 : x ≠ t) : md_J h s t x = x := by
  unfold md_J
  rw [if_neg h1, if_neg h2, hx]
section
variable {gc gw ge gl gs : Int32} {bk bf bs rk rf rs mt : Nat → Int32}
theorem yl_me {post : SY → Prop} {m p q l : Nat} {h : Nat → Nat} (hm : m ≤ 520) (W : yl_W m rf rs h) (hi : fz_I h) (p2 : p < 2000) (q2 : q < 2000) (hpq : p ≠ q) (hb : yl_b h)
    (H : ∀ m' rf' rs', m' ≤ m → yl_W m' rf' rs' (fz_F h p q) → post (gc, gw, ge, nI m', nI (l + fz_L h p q), gs, bk, bf, bs, rk, rf', rs', mt)) : wpY_melt post (gc, gw, ge, nI m, nI l, gs, bk, bf, bs, rk, rf, rs, mt) (nI p) (nI q) := by
  have hp' := hb p p2
  have hq' := hb q q2
  unfold wpY_melt
  dsimp only
  refine yl_ac hm p2 W ?_
  refine yl_ac hm q2 W ?_
  -- the part behind p's wire
  have back : ∀ (m1 : Nat) (rf1 rs1 : Nat → Int32), m1 ≤ m → (h p ≠ p → m1 + 1 ≤ m) → yl_W m1 rf1 rs1 (yl_C h p (h p)) → wY_melt_31 post (nI q) (md_fo p (h p)) (md_fo q (h q)) gc gw ge (nI m1) (nI l) gs bk bf bs rk rf1 rs1 mt := by
    intro m1 rf1 rs1 hm1 hm2 W1
    unfold wY_melt_31
    by_cases b : h p = q
    · have eL : fz_L h p q = 1 := if_pos b
      rw [eL] at H
      rw [xl_a1]
      refine br_t (by rw [b]; exact md_fo_n (fun z => hpq z.symm)) (nm_e (H m1 rf1 rs1 hm1 ?_))
      rw [b, yl_Cl hi hpq b] at W1
      exact W1
    · have eL : fz_L h p q = 0 := if_neg b
      rw [eL] at H
      have ne1 : ¬ md_fo p (h p) = nI q := by
        by_cases c : h p = p
        · rw [c, md_fo_s]
          exact fun z => xl_nm1 (by omega) z.symm
        · rw [md_fo_n c]
          exact fun z => b ((nI_eq (by omega) (by omega)).mp z)
      refine br_f ne1 ?_
      have e1 : yl_C h p (h p) q = h q := yl_C4 b hpq
      refine yl_dr (Q := fun u => wY_melt_65 post (md_fo p (h p)) (md_fo q (h q)) u.1 u.2.1 u.2.2.1 u.2.2.2.1 u.2.2.2.2.1 u.2.2.2.2.2.1 u.2.2.2.2.2.2.1 u.2.2.2.2.2.2.2.1 u.2.2.2.2.2.2.2.2.1 u.2.2.2.2.2.2.2.2.2.1 u.2.2.2.2.2.2.2.2.2.2.1 u.2.2.2.2.2.2.2.2.2.2.2.1 u.2.2.2.2.2.2.2.2.2.2.2.2) (by omega) q2 W1 (fun z => ?_) (fun z z1 rf2 rs2 W2 => ?_) (fun k => br_t (by decide) k) (fun i hi' k => br_f (nI_pos (by omega)) k)
      · rw [e1] at z
        dsimp only
        unfold wY_melt_65
        by_cases c : h p = p
        · rw [c, md_fo_s]
          refine br_t (by decide) (H m1 rf1 rs1 hm1 ?_)
          rw [← yl_C0 hi hpq c z]
          have : yl_C h p (h p) = h := by
            funext x
            unfold yl_C
            rw [c]
            split
            · rename_i xe; rw [xe, c]
            · rfl
          rw [this] at W1
          exact W1
        · rw [md_fo_n c, z, md_fo_s]
          refine br_f (nI_pos (by omega)) (br_t (by decide) (H m1 rf1 rs1 hm1 ?_))
          rw [yl_C2 hi hpq b c z] at W1
          exact W1
      · rw [e1] at z W2
        dsimp only
        unfold wY_melt_65
        by_cases c : h p = p
        · rw [c, md_fo_s]
          refine br_t (by decide) (H (m1 - 1) rf2 rs2 (by omega) ?_)
          have : yl_C h p (h p) = h := by
            funext x
            unfold yl_C
            rw [c]
            split
            · rename_i xe; rw [xe, c]
            · rfl
          rw [this, yl_C1 hi hpq c z] at W2
          exact W2
        · rw [md_fo_n c, md_fo_n z]
          have hm3 := hm2 c
          have hhp := hi p
          have hhq := hi q
          have n1 : yl_C (yl_C h p (h p)) q (h q) (h p) = h p := by
            unfold yl_C
            grind
          have n2 : yl_C (yl_C h p (h p)) q (h q) (h q) = h q := by
            unfold yl_C
            grind
          have n3 : h p ≠ h q := fun w => hpq (by rw [← hhp, w, hhq])
          refine br_f (nI_pos (by omega)) (br_f (nI_pos (by omega)) ?_)
          refine yl_aw (by omega) W2 n1 n2 n3 hp' hq' (fun rf3 rs3 W3 => ?_)
          rw [yl_C3 hi hpq b c z] at W3
          exact H (m1 - 1 + 1) rf3 rs3 (by omega) W3
  refine yl_dr (Q := fun u => wY_melt_31 post (nI q) (md_fo p (h p)) (md_fo q (h q)) u.1 u.2.1 u.2.2.1 u.2.2.2.1 u.2.2.2.2.1 u.2.2.2.2.2.1 u.2.2.2.2.2.2.1 u.2.2.2.2.2.2.2.1 u.2.2.2.2.2.2.2.2.1 u.2.2.2.2.2.2.2.2.2.1 u.2.2.2.2.2.2.2.2.2.2.1 u.2.2.2.2.2.2.2.2.2.2.2.1 u.2.2.2.2.2.2.2.2.2.2.2.2) hm p2 W (fun z => ?_) (fun z z1 rf2 rs2 W2 => ?_) (fun k => br_t (by decide) k) (fun i hi' k => br_f (nI_pos (by omega)) k)
  · refine back m rf rs (Nat.le_refl m) (fun z' => absurd z z') ?_
    have : yl_C h p (h p) = h := by
      funext x
      unfold yl_C
      rw [z]
      split
      · rename_i xe; rw [xe, z]
      · rfl
    rw [this]
    exact W
  · exact back (m - 1) rf2 rs2 (by omega) (fun _ => by omega) W2
theorem yl_mk {post : Int32 → SY → Prop} {e : Nat} {gm k : Int32} (he : e < 500) (hge : ge = nI e) (H : post (nI e) (gc, gw, nI (e + 1), gm, gl, gs, bk, bf, bs, upd rk e k, rf, rs, mt)) : wpY_make post (gc, gw, ge, gm, gl, gs, bk, bf, bs, rk, rf, rs, mt) k := by
  subst hge
  unfold wpY_make
  dsimp only
  rw [xl_a1, nI_clamp (by omega)]
  refine ⟨vp_in_nI he (by omega), nm_e (nm_e ?_)⟩
  rw [nI_pred]
  exact H
theorem yl_po {post : Int32 → Prop} {gm : Int32} {c s : Nat} (H : post (nI (md_p 4 c s))) : wpY_port post (gc, gw, ge, gm, gl, gs, bk, bf, bs, rk, rf, rs, mt) (nI c) (nI s) := by
  unfold wpY_port
  dsimp only
  rw [yl_q]
  exact H
theorem yl_er {post : SY → Prop} {h : Nat → Nat} {p e m : Nat} (hm : m ≤ 520) (he : e + 1 < 500) (hp : p < e) (W : yl_W m rf rs h) (hi : fz_I h) (hb : yl_b h) (t0 : h (md_p 4 e 0) = md_p 4 e 0) (t1 : h (md_p 4 (e + 1) 0) = md_p 4 (e + 1) 0)
    (H : ∀ rf' rs', yl_W m rf' rs' (md_M (md_M h (md_p 4 p 1) (md_p 4 e 0)) (md_p 4 p 2) (md_p 4 (e + 1) 0)) → post (gc, gw, nI (e + 2), nI m, gl, gs, bk, bf, bs, upd (upd rk e 2) (e + 1) 2, rf', rs', mt)) :
    wpY_erase post (gc, gw, nI e, nI m, gl, gs, bk, bf, bs, rk, rf, rs, mt) (nI p) := by
  refine ⟨0 + 1 + 1 + 1, ?_⟩
  refine br_f (by decide) ?_
  refine yl_mk (by omega) rfl ?_
  dsimp only
  refine yl_po (s := 1) ?_
  refine yl_po (s := 0) ?_
  refine yl_mv hm W hi (yl_pb (by omega) (by omega)) (yl_pb (by omega) (by omega)) t0 (fun rf1 rs1 W1 => ?_)
  dsimp only
  refine nm_r (show (1 : Int32) + 1 = 2 by decide) ?_
  refine br_f (by decide) ?_
  refine yl_mk (e := e + 1) (by omega) rfl ?_
  dsimp only
  refine yl_po (s := 2) ?_
  refine yl_po (s := 0) ?_
  refine yl_mv hm W1 (md_Mi hi t0 (yl_pn (by omega) (by omega) (by omega))) (yl_pb (by omega) (by omega)) (yl_pb (by omega) (by omega)) (md_Mk t1 (yl_pn (by omega) (by omega) (by omega)) (yl_pn (by omega) (by omega) (by omega))) (fun rf2 rs2 W2 => ?_)
  dsimp only
  refine nm_r (show (2 : Int32) + 1 = 3 by decide) ?_
  refine br_t (by decide) ?_
  exact H rf2 rs2 W2
theorem yl_cp {post : SY → Prop} {h : Nat → Nat} {c d e m : Nat} (hm : m + 4 ≤ 520) (he : e + 3 < 500) (hc : c < e) (hd : d < e) (hcd : c ≠ d) (W : yl_W m rf rs h) (hi : fz_I h) (hb : yl_b h) (ht : ∀ t s, e ≤ t → s < 3 → h (md_p 4 t s) = md_p 4 t s)
    (H : ∀ rf' rs', yl_W (m + 4) rf' rs' (md_J (md_J (md_J (md_J (md_M (md_M (md_M (md_M h (md_p 4 c 1) (md_p 4 e 0)) (md_p 4 c 2) (md_p 4 (e + 1) 0)) (md_p 4 d 1) (md_p 4 (e + 2) 0)) (md_p 4 d 2) (md_p 4 (e + 3) 0)) (md_p 4 e 1) (md_p 4 (e + 2) 1)) (md_p 4 e 2) (md_p 4 (e + 3) 1)) (md_p 4 (e + 1) 1) (md_p 4 (e + 2) 2)) (md_p 4 (e + 1) 2) (md_p 4 (e + 3) 2)) → post (gc, gw, nI (e + 4), nI (m + 4), gl, gs, bk, bf, bs, upd (upd (upd (upd rk e 1) (e + 1) 1) (e + 2) 0) (e + 3) 0, rf', rs', mt)) :
    wpY_copyEachOther post (gc, gw, nI e, nI m, gl, gs, bk, bf, bs, rk, rf, rs, mt) (nI c) (nI d) := by
  have i0 : fz_I h := hi
  have b0 : yl_b h := hb
  have t0_E0_0 : h (md_p 4 e 0) = (md_p 4 e 0) := ht e 0 (by omega) (by omega)
  have t0_E0_1 : h (md_p 4 e 1) = (md_p 4 e 1) := ht e 1 (by omega) (by omega)
  have t1_E0_1 : (md_M h (md_p 4 c 1) (md_p 4 e 0)) (md_p 4 e 1) = (md_p 4 e 1) := md_Mk t0_E0_1 (yl_pn (by omega) (by omega) (by omega)) (yl_ps (by omega) (by omega) (by omega))
  have t2_E0_1 : (md_M (md_M h (md_p 4 c 1) (md_p 4 e 0)) (md_p 4 d 1) (md_p 4 (e + 2) 0)) (md_p 4 e 1) = (md_p 4 e 1) := md_Mk t1_E0_1 (yl_pn (by omega) (by omega) (by omega)) (yl_pn (by omega) (by omega) (by omega))
  have t3_E0_1 : (md_M (md_M (md_M h (md_p 4 c 1) (md_p 4 e 0)) (md_p 4 d 1) (md_p 4 (e + 2) 0)) (md_p 4 c 2) (md_p 4 (e + 1) 0)) (md_p 4 e 1) = (md_p 4 e 1) := md_Mk t2_E0_1 (yl_pn (by omega) (by omega) (by omega)) (yl_pn (by omega) (by omega) (by omega))
  have t4_E0_1 : (md_M (md_M (md_M (md_M h (md_p 4 c 1) (md_p 4 e 0)) (md_p 4 d 1) (md_p 4 (e + 2) 0)) (md_p 4 c 2) (md_p 4 (e + 1) 0)) (md_p 4 d 2) (md_p 4 (e + 3) 0)) (md_p 4 e 1) = (md_p 4 e 1) := md_Mk t3_E0_1 (yl_pn (by omega) (by omega) (by omega)) (yl_pn (by omega) (by omega) (by omega))
  have t0_E0_2 : h (md_p 4 e 2) = (md_p 4 e 2) := ht e 2 (by omega) (by omega)
  have t1_E0_2 : (md_M h (md_p 4 c 1) (md_p 4 e 0)) (md_p 4 e 2) = (md_p 4 e 2) := md_Mk t0_E0_2 (yl_pn (by omega) (by omega) (by omega)) (yl_ps (by omega) (by omega) (by omega))
  have t2_E0_2 : (md_M (md_M h (md_p 4 c 1) (md_p 4 e 0)) (md_p 4 d 1) (md_p 4 (e + 2) 0)) (md_p 4 e 2) = (md_p 4 e 2) := md_Mk t1_E0_2 (yl_pn (by omega) (by omega) (by omega)) (yl_pn (by omega) (by omega) (by omega))
  have t3_E0_2 : (md_M (md_M (md_M h (md_p 4 c 1) (md_p 4 e 0)) (md_p 4 d 1) (md_p 4 (e + 2) 0)) (md_p 4 c 2) (md_p 4 (e + 1) 0)) (md_p 4 e 2) = (md_p 4 e 2) := md_Mk t2_E0_2 (yl_pn (by omega) (by omega) (by omega)) (yl_pn (by omega) (by omega) (by omega))
  have t4_E0_2 : (md_M (md_M (md_M (md_M h (md_p 4 c 1) (md_p 4 e 0)) (md_p 4 d 1) (md_p 4 (e + 2) 0)) (md_p 4 c 2) (md_p 4 (e + 1) 0)) (md_p 4 d 2) (md_p 4 (e + 3) 0)) (md_p 4 e 2) = (md_p 4 e 2) := md_Mk t3_E0_2 (yl_pn (by omega) (by omega) (by omega)) (yl_pn (by omega) (by omega) (by omega))
  have t5_E0_2 : (md_J (md_M (md_M (md_M (md_M h (md_p 4 c 1) (md_p 4 e 0)) (md_p 4 d 1) (md_p 4 (e + 2) 0)) (md_p 4 c 2) (md_p 4 (e + 1) 0)) (md_p 4 d 2) (md_p 4 (e + 3) 0)) (md_p 4 e 1) (md_p 4 (e + 2) 1)) (md_p 4 e 2) = (md_p 4 e 2) := md_Jk t4_E0_2 (yl_ps (by omega) (by omega) (by omega)) (yl_pn (by omega) (by omega) (by omega))
  have t0_E1_0 : h (md_p 4 (e + 1) 0) = (md_p 4 (e + 1) 0) := ht (e + 1) 0 (by omega) (by omega)
  have t1_E1_0 : (md_M h (md_p 4 c 1) (md_p 4 e 0)) (md_p 4 (e + 1) 0) = (md_p 4 (e + 1) 0) := md_Mk t0_E1_0 (yl_pn (by omega) (by omega) (by omega)) (yl_pn (by omega) (by omega) (by omega))
  have t2_E1_0 : (md_M (md_M h (md_p 4 c 1) (md_p 4 e 0)) (md_p 4 d 1) (md_p 4 (e + 2) 0)) (md_p 4 (e + 1) 0) = (md_p 4 (e + 1) 0) := md_Mk t1_E1_0 (yl_pn (by omega) (by omega) (by omega)) (yl_pn (by omega) (by omega) (by omega))
  have t0_E1_1 : h (md_p 4 (e + 1) 1) = (md_p 4 (e + 1) 1) := ht (e + 1) 1 (by omega) (by omega)
  have t1_E1_1 : (md_M h (md_p 4 c 1) (md_p 4 e 0)) (md_p 4 (e + 1) 1) = (md_p 4 (e + 1) 1) := md_Mk t0_E1_1 (yl_pn (by omega) (by omega) (by omega)) (yl_pn (by omega) (by omega) (by omega))
  have t2_E1_1 : (md_M (md_M h (md_p 4 c 1) (md_p 4 e 0)) (md_p 4 d 1) (md_p 4 (e + 2) 0)) (md_p 4 (e + 1) 1) = (md_p 4 (e + 1) 1) := md_Mk t1_E1_1 (yl_pn (by omega) (by omega) (by omega)) (yl_pn (by omega) (by omega) (by omega))
  have t3_E1_1 : (md_M (md_M (md_M h (md_p 4 c 1) (md_p 4 e 0)) (md_p 4 d 1) (md_p 4 (e + 2) 0)) (md_p 4 c 2) (md_p 4 (e + 1) 0)) (md_p 4 (e + 1) 1) = (md_p 4 (e + 1) 1) := md_Mk t2_E1_1 (yl_pn (by omega) (by omega) (by omega)) (yl_ps (by omega) (by omega) (by omega))
  have t4_E1_1 : (md_M (md_M (md_M (md_M h (md_p 4 c 1) (md_p 4 e 0)) (md_p 4 d 1) (md_p 4 (e + 2) 0)) (md_p 4 c 2) (md_p 4 (e + 1) 0)) (md_p 4 d 2) (md_p 4 (e + 3) 0)) (md_p 4 (e + 1) 1) = (md_p 4 (e + 1) 1) := md_Mk t3_E1_1 (yl_pn (by omega) (by omega) (by omega)) (yl_pn (by omega) (by omega) (by omega))
  have t5_E1_1 : (md_J (md_M (md_M (md_M (md_M h (md_p 4 c 1) (md_p 4 e 0)) (md_p 4 d 1) (md_p 4 (e + 2) 0)) (md_p 4 c 2) (md_p 4 (e + 1) 0)) (md_p 4 d 2) (md_p 4 (e + 3) 0)) (md_p 4 e 1) (md_p 4 (e + 2) 1)) (md_p 4 (e + 1) 1) = (md_p 4 (e + 1) 1) := md_Jk t4_E1_1 (yl_pn (by omega) (by omega) (by omega)) (yl_pn (by omega) (by omega) (by omega))
  have t6_E1_1 : (md_J (md_J (md_M (md_M (md_M (md_M h (md_p 4 c 1) (md_p 4 e 0)) (md_p 4 d 1) (md_p 4 (e + 2) 0)) (md_p 4 c 2) (md_p 4 (e + 1) 0)) (md_p 4 d 2) (md_p 4 (e + 3) 0)) (md_p 4 e 1) (md_p 4 (e + 2) 1)) (md_p 4 e 2) (md_p 4 (e + 3) 1)) (md_p 4 (e + 1) 1) = (md_p 4 (e + 1) 1) := md_Jk t5_E1_1 (yl_pn (by omega) (by omega) (by omega)) (yl_pn (by omega) (by omega) (by omega))
  have t0_E1_2 : h (md_p 4 (e + 1) 2) = (md_p 4 (e + 1) 2) := ht (e + 1) 2 (by omega) (by omega)
  have t1_E1_2 : (md_M h (md_p 4 c 1) (md_p 4 e 0)) (md_p 4 (e + 1) 2) = (md_p 4 (e + 1) 2) := md_Mk t0_E1_2 (yl_pn (by omega) (by omega) (by omega)) (yl_pn (by omega) (by omega) (by omega))
  have t2_E1_2 : (md_M (md_M h (md_p 4 c 1) (md_p 4 e 0)) (md_p 4 d 1) (md_p 4 (e + 2) 0)) (md_p 4 (e + 1) 2) = (md_p 4 (e + 1) 2) := md_Mk t1_E1_2 (yl_pn (by omega) (by omega) (by omega)) (yl_pn (by omega) (by omega) (by omega))
  have t3_E1_2 : (md_M (md_M (md_M h (md_p 4 c 1) (md_p 4 e 0)) (md_p 4 d 1) (md_p 4 (e + 2) 0)) (md_p 4 c 2) (md_p 4 (e + 1) 0)) (md_p 4 (e + 1) 2) = (md_p 4 (e + 1) 2) := md_Mk t2_E1_2 (yl_pn (by omega) (by omega) (by omega)) (yl_ps (by omega) (by omega) (by omega))
  have t4_E1_2 : (md_M (md_M (md_M (md_M h (md_p 4 c 1) (md_p 4 e 0)) (md_p 4 d 1) (md_p 4 (e + 2) 0)) (md_p 4 c 2) (md_p 4 (e + 1) 0)) (md_p 4 d 2) (md_p 4 (e + 3) 0)) (md_p 4 (e + 1) 2) = (md_p 4 (e + 1) 2) := md_Mk t3_E1_2 (yl_pn (by omega) (by omega) (by omega)) (yl_pn (by omega) (by omega) (by omega))
  have t5_E1_2 : (md_J (md_M (md_M (md_M (md_M h (md_p 4 c 1) (md_p 4 e 0)) (md_p 4 d 1) (md_p 4 (e + 2) 0)) (md_p 4 c 2) (md_p 4 (e + 1) 0)) (md_p 4 d 2) (md_p 4 (e + 3) 0)) (md_p 4 e 1) (md_p 4 (e + 2) 1)) (md_p 4 (e + 1) 2) = (md_p 4 (e + 1) 2) := md_Jk t4_E1_2 (yl_pn (by omega) (by omega) (by omega)) (yl_pn (by omega) (by omega) (by omega))
  have t6_E1_2 : (md_J (md_J (md_M (md_M (md_M (md_M h (md_p 4 c 1) (md_p 4 e 0)) (md_p 4 d 1) (md_p 4 (e + 2) 0)) (md_p 4 c 2) (md_p 4 (e + 1) 0)) (md_p 4 d 2) (md_p 4 (e + 3) 0)) (md_p 4 e 1) (md_p 4 (e + 2) 1)) (md_p 4 e 2) (md_p 4 (e + 3) 1)) (md_p 4 (e + 1) 2) = (md_p 4 (e + 1) 2) := md_Jk t5_E1_2 (yl_pn (by omega) (by omega) (by omega)) (yl_pn (by omega) (by omega) (by omega))
  have t7_E1_2 : (md_J (md_J (md_J (md_M (md_M (md_M (md_M h (md_p 4 c 1) (md_p 4 e 0)) (md_p 4 d 1) (md_p 4 (e + 2) 0)) (md_p 4 c 2) (md_p 4 (e + 1) 0)) (md_p 4 d 2) (md_p 4 (e + 3) 0)) (md_p 4 e 1) (md_p 4 (e + 2) 1)) (md_p 4 e 2) (md_p 4 (e + 3) 1)) (md_p 4 (e + 1) 1) (md_p 4 (e + 2) 2)) (md_p 4 (e + 1) 2) = (md_p 4 (e + 1) 2) := md_Jk t6_E1_2 (yl_ps (by omega) (by omega) (by omega)) (yl_pn (by omega) (by omega) (by omega))
  have t0_E2_0 : h (md_p 4 (e + 2) 0) = (md_p 4 (e + 2) 0) := ht (e + 2) 0 (by omega) (by omega)
  have t1_E2_0 : (md_M h (md_p 4 c 1) (md_p 4 e 0)) (md_p 4 (e + 2) 0) = (md_p 4 (e + 2) 0) := md_Mk t0_E2_0 (yl_pn (by omega) (by omega) (by omega)) (yl_pn (by omega) (by omega) (by omega))
  have t0_E2_1 : h (md_p 4 (e + 2) 1) = (md_p 4 (e + 2) 1) := ht (e + 2) 1 (by omega) (by omega)
  have t1_E2_1 : (md_M h (md_p 4 c 1) (md_p 4 e 0)) (md_p 4 (e + 2) 1) = (md_p 4 (e + 2) 1) := md_Mk t0_E2_1 (yl_pn (by omega) (by omega) (by omega)) (yl_pn (by omega) (by omega) (by omega))
  have t2_E2_1 : (md_M (md_M h (md_p 4 c 1) (md_p 4 e 0)) (md_p 4 d 1) (md_p 4 (e + 2) 0)) (md_p 4 (e + 2) 1) = (md_p 4 (e + 2) 1) := md_Mk t1_E2_1 (yl_pn (by omega) (by omega) (by omega)) (yl_ps (by omega) (by omega) (by omega))
  have t3_E2_1 : (md_M (md_M (md_M h (md_p 4 c 1) (md_p 4 e 0)) (md_p 4 d 1) (md_p 4 (e + 2) 0)) (md_p 4 c 2) (md_p 4 (e + 1) 0)) (md_p 4 (e + 2) 1) = (md_p 4 (e + 2) 1) := md_Mk t2_E2_1 (yl_pn (by omega) (by omega) (by omega)) (yl_pn (by omega) (by omega) (by omega))
  have t4_E2_1 : (md_M (md_M (md_M (md_M h (md_p 4 c 1) (md_p 4 e 0)) (md_p 4 d 1) (md_p 4 (e + 2) 0)) (md_p 4 c 2) (md_p 4 (e + 1) 0)) (md_p 4 d 2) (md_p 4 (e + 3) 0)) (md_p 4 (e + 2) 1) = (md_p 4 (e + 2) 1) := md_Mk t3_E2_1 (yl_pn (by omega) (by omega) (by omega)) (yl_pn (by omega) (by omega) (by omega))
  have t0_E2_2 : h (md_p 4 (e + 2) 2) = (md_p 4 (e + 2) 2) := ht (e + 2) 2 (by omega) (by omega)
  have t1_E2_2 : (md_M h (md_p 4 c 1) (md_p 4 e 0)) (md_p 4 (e + 2) 2) = (md_p 4 (e + 2) 2) := md_Mk t0_E2_2 (yl_pn (by omega) (by omega) (by omega)) (yl_pn (by omega) (by omega) (by omega))
  have t2_E2_2 : (md_M (md_M h (md_p 4 c 1) (md_p 4 e 0)) (md_p 4 d 1) (md_p 4 (e + 2) 0)) (md_p 4 (e + 2) 2) = (md_p 4 (e + 2) 2) := md_Mk t1_E2_2 (yl_pn (by omega) (by omega) (by omega)) (yl_ps (by omega) (by omega) (by omega))
  have t3_E2_2 : (md_M (md_M (md_M h (md_p 4 c 1) (md_p 4 e 0)) (md_p 4 d 1) (md_p 4 (e + 2) 0)) (md_p 4 c 2) (md_p 4 (e + 1) 0)) (md_p 4 (e + 2) 2) = (md_p 4 (e + 2) 2) := md_Mk t2_E2_2 (yl_pn (by omega) (by omega) (by omega)) (yl_pn (by omega) (by omega) (by omega))
  have t4_E2_2 : (md_M (md_M (md_M (md_M h (md_p 4 c 1) (md_p 4 e 0)) (md_p 4 d 1) (md_p 4 (e + 2) 0)) (md_p 4 c 2) (md_p 4 (e + 1) 0)) (md_p 4 d 2) (md_p 4 (e + 3) 0)) (md_p 4 (e + 2) 2) = (md_p 4 (e + 2) 2) := md_Mk t3_E2_2 (yl_pn (by omega) (by omega) (by omega)) (yl_pn (by omega) (by omega) (by omega))
  have t5_E2_2 : (md_J (md_M (md_M (md_M (md_M h (md_p 4 c 1) (md_p 4 e 0)) (md_p 4 d 1) (md_p 4 (e + 2) 0)) (md_p 4 c 2) (md_p 4 (e + 1) 0)) (md_p 4 d 2) (md_p 4 (e + 3) 0)) (md_p 4 e 1) (md_p 4 (e + 2) 1)) (md_p 4 (e + 2) 2) = (md_p 4 (e + 2) 2) := md_Jk t4_E2_2 (yl_pn (by omega) (by omega) (by omega)) (yl_ps (by omega) (by omega) (by omega))
  have t6_E2_2 : (md_J (md_J (md_M (md_M (md_M (md_M h (md_p 4 c 1) (md_p 4 e 0)) (md_p 4 d 1) (md_p 4 (e + 2) 0)) (md_p 4 c 2) (md_p 4 (e + 1) 0)) (md_p 4 d 2) (md_p 4 (e + 3) 0)) (md_p 4 e 1) (md_p 4 (e + 2) 1)) (md_p 4 e 2) (md_p 4 (e + 3) 1)) (md_p 4 (e + 2) 2) = (md_p 4 (e + 2) 2) := md_Jk t5_E2_2 (yl_pn (by omega) (by omega) (by omega)) (yl_pn (by omega) (by omega) (by omega))
  have t0_E3_0 : h (md_p 4 (e + 3) 0) = (md_p 4 (e + 3) 0) := ht (e + 3) 0 (by omega) (by omega)
  have t1_E3_0 : (md_M h (md_p 4 c 1) (md_p 4 e 0)) (md_p 4 (e + 3) 0) = (md_p 4 (e + 3) 0) := md_Mk t0_E3_0 (yl_pn (by omega) (by omega) (by omega)) (yl_pn (by omega) (by omega) (by omega))
  have t2_E3_0 : (md_M (md_M h (md_p 4 c 1) (md_p 4 e 0)) (md_p 4 d 1) (md_p 4 (e + 2) 0)) (md_p 4 (e + 3) 0) = (md_p 4 (e + 3) 0) := md_Mk t1_E3_0 (yl_pn (by omega) (by omega) (by omega)) (yl_pn (by omega) (by omega) (by omega))
  have t3_E3_0 : (md_M (md_M (md_M h (md_p 4 c 1) (md_p 4 e 0)) (md_p 4 d 1) (md_p 4 (e + 2) 0)) (md_p 4 c 2) (md_p 4 (e + 1) 0)) (md_p 4 (e + 3) 0) = (md_p 4 (e + 3) 0) := md_Mk t2_E3_0 (yl_pn (by omega) (by omega) (by omega)) (yl_pn (by omega) (by omega) (by omega))
  have t0_E3_1 : h (md_p 4 (e + 3) 1) = (md_p 4 (e + 3) 1) := ht (e + 3) 1 (by omega) (by omega)
  have t1_E3_1 : (md_M h (md_p 4 c 1) (md_p 4 e 0)) (md_p 4 (e + 3) 1) = (md_p 4 (e + 3) 1) := md_Mk t0_E3_1 (yl_pn (by omega) (by omega) (by omega)) (yl_pn (by omega) (by omega) (by omega))
  have t2_E3_1 : (md_M (md_M h (md_p 4 c 1) (md_p 4 e 0)) (md_p 4 d 1) (md_p 4 (e + 2) 0)) (md_p 4 (e + 3) 1) = (md_p 4 (e + 3) 1) := md_Mk t1_E3_1 (yl_pn (by omega) (by omega) (by omega)) (yl_pn (by omega) (by omega) (by omega))
  have t3_E3_1 : (md_M (md_M (md_M h (md_p 4 c 1) (md_p 4 e 0)) (md_p 4 d 1) (md_p 4 (e + 2) 0)) (md_p 4 c 2) (md_p 4 (e + 1) 0)) (md_p 4 (e + 3) 1) = (md_p 4 (e + 3) 1) := md_Mk t2_E3_1 (yl_pn (by omega) (by omega) (by omega)) (yl_pn (by omega) (by omega) (by omega))
  have t4_E3_1 : (md_M (md_M (md_M (md_M h (md_p 4 c 1) (md_p 4 e 0)) (md_p 4 d 1) (md_p 4 (e + 2) 0)) (md_p 4 c 2) (md_p 4 (e + 1) 0)) (md_p 4 d 2) (md_p 4 (e + 3) 0)) (md_p 4 (e + 3) 1) = (md_p 4 (e + 3) 1) := md_Mk t3_E3_1 (yl_pn (by omega) (by omega) (by omega)) (yl_ps (by omega) (by omega) (by omega))
  have t5_E3_1 : (md_J (md_M (md_M (md_M (md_M h (md_p 4 c 1) (md_p 4 e 0)) (md_p 4 d 1) (md_p 4 (e + 2) 0)) (md_p 4 c 2) (md_p 4 (e + 1) 0)) (md_p 4 d 2) (md_p 4 (e + 3) 0)) (md_p 4 e 1) (md_p 4 (e + 2) 1)) (md_p 4 (e + 3) 1) = (md_p 4 (e + 3) 1) := md_Jk t4_E3_1 (yl_pn (by omega) (by omega) (by omega)) (yl_pn (by omega) (by omega) (by omega))
  have t0_E3_2 : h (md_p 4 (e + 3) 2) = (md_p 4 (e + 3) 2) := ht (e + 3) 2 (by omega) (by omega)
  have t1_E3_2 : (md_M h (md_p 4 c 1) (md_p 4 e 0)) (md_p 4 (e + 3) 2) = (md_p 4 (e + 3) 2) := md_Mk t0_E3_2 (yl_pn (by omega) (by omega) (by omega)) (yl_pn (by omega) (by omega) (by omega))
  have t2_E3_2 : (md_M (md_M h (md_p 4 c 1) (md_p 4 e 0)) (md_p 4 d 1) (md_p 4 (e + 2) 0)) (md_p 4 (e + 3) 2) = (md_p 4 (e + 3) 2) := md_Mk t1_E3_2 (yl_pn (by omega) (by omega) (by omega)) (yl_pn (by omega) (by omega) (by omega))
  have t3_E3_2 : (md_M (md_M (md_M h (md_p 4 c 1) (md_p 4 e 0)) (md_p 4 d 1) (md_p 4 (e + 2) 0)) (md_p 4 c 2) (md_p 4 (e + 1) 0)) (md_p 4 (e + 3) 2) = (md_p 4 (e + 3) 2) := md_Mk t2_E3_2 (yl_pn (by omega) (by omega) (by omega)) (yl_pn (by omega) (by omega) (by omega))
  have t4_E3_2 : (md_M (md_M (md_M (md_M h (md_p 4 c 1) (md_p 4 e 0)) (md_p 4 d 1) (md_p 4 (e + 2) 0)) (md_p 4 c 2) (md_p 4 (e + 1) 0)) (md_p 4 d 2) (md_p 4 (e + 3) 0)) (md_p 4 (e + 3) 2) = (md_p 4 (e + 3) 2) := md_Mk t3_E3_2 (yl_pn (by omega) (by omega) (by omega)) (yl_ps (by omega) (by omega) (by omega))
  have t5_E3_2 : (md_J (md_M (md_M (md_M (md_M h (md_p 4 c 1) (md_p 4 e 0)) (md_p 4 d 1) (md_p 4 (e + 2) 0)) (md_p 4 c 2) (md_p 4 (e + 1) 0)) (md_p 4 d 2) (md_p 4 (e + 3) 0)) (md_p 4 e 1) (md_p 4 (e + 2) 1)) (md_p 4 (e + 3) 2) = (md_p 4 (e + 3) 2) := md_Jk t4_E3_2 (yl_pn (by omega) (by omega) (by omega)) (yl_pn (by omega) (by omega) (by omega))
  have t6_E3_2 : (md_J (md_J (md_M (md_M (md_M (md_M h (md_p 4 c 1) (md_p 4 e 0)) (md_p 4 d 1) (md_p 4 (e + 2) 0)) (md_p 4 c 2) (md_p 4 (e + 1) 0)) (md_p 4 d 2) (md_p 4 (e + 3) 0)) (md_p 4 e 1) (md_p 4 (e + 2) 1)) (md_p 4 e 2) (md_p 4 (e + 3) 1)) (md_p 4 (e + 3) 2) = (md_p 4 (e + 3) 2) := md_Jk t5_E3_2 (yl_pn (by omega) (by omega) (by omega)) (yl_ps (by omega) (by omega) (by omega))
  have t7_E3_2 : (md_J (md_J (md_J (md_M (md_M (md_M (md_M h (md_p 4 c 1) (md_p 4 e 0)) (md_p 4 d 1) (md_p 4 (e + 2) 0)) (md_p 4 c 2) (md_p 4 (e + 1) 0)) (md_p 4 d 2) (md_p 4 (e + 3) 0)) (md_p 4 e 1) (md_p 4 (e + 2) 1)) (md_p 4 e 2) (md_p 4 (e + 3) 1)) (md_p 4 (e + 1) 1) (md_p 4 (e + 2) 2)) (md_p 4 (e + 3) 2) = (md_p 4 (e + 3) 2) := md_Jk t6_E3_2 (yl_pn (by omega) (by omega) (by omega)) (yl_pn (by omega) (by omega) (by omega))
  have i1 : fz_I (md_M h (md_p 4 c 1) (md_p 4 e 0)) := md_Mi i0 t0_E0_0 (yl_pn (by omega) (by omega) (by omega))
  have b1 : yl_b (md_M h (md_p 4 c 1) (md_p 4 e 0)) := yl_bM b0 (yl_pb (by omega) (by omega)) (yl_pb (by omega) (by omega))
  have i2 : fz_I (md_M (md_M h (md_p 4 c 1) (md_p 4 e 0)) (md_p 4 d 1) (md_p 4 (e + 2) 0)) := md_Mi i1 t1_E2_0 (yl_pn (by omega) (by omega) (by omega))
  have b2 : yl_b (md_M (md_M h (md_p 4 c 1) (md_p 4 e 0)) (md_p 4 d 1) (md_p 4 (e + 2) 0)) := yl_bM b1 (yl_pb (by omega) (by omega)) (yl_pb (by omega) (by omega))
  have i3 : fz_I (md_M (md_M (md_M h (md_p 4 c 1) (md_p 4 e 0)) (md_p 4 d 1) (md_p 4 (e + 2) 0)) (md_p 4 c 2) (md_p 4 (e + 1) 0)) := md_Mi i2 t2_E1_0 (yl_pn (by omega) (by omega) (by omega))
  have b3 : yl_b (md_M (md_M (md_M h (md_p 4 c 1) (md_p 4 e 0)) (md_p 4 d 1) (md_p 4 (e + 2) 0)) (md_p 4 c 2) (md_p 4 (e + 1) 0)) := yl_bM b2 (yl_pb (by omega) (by omega)) (yl_pb (by omega) (by omega))
  have i4 : fz_I (md_M (md_M (md_M (md_M h (md_p 4 c 1) (md_p 4 e 0)) (md_p 4 d 1) (md_p 4 (e + 2) 0)) (md_p 4 c 2) (md_p 4 (e + 1) 0)) (md_p 4 d 2) (md_p 4 (e + 3) 0)) := md_Mi i3 t3_E3_0 (yl_pn (by omega) (by omega) (by omega))
  have b4 : yl_b (md_M (md_M (md_M (md_M h (md_p 4 c 1) (md_p 4 e 0)) (md_p 4 d 1) (md_p 4 (e + 2) 0)) (md_p 4 c 2) (md_p 4 (e + 1) 0)) (md_p 4 d 2) (md_p 4 (e + 3) 0)) := yl_bM b3 (yl_pb (by omega) (by omega)) (yl_pb (by omega) (by omega))
  have cm : (md_M (md_M (md_M h (md_p 4 c 1) (md_p 4 e 0)) (md_p 4 d 1) (md_p 4 (e + 2) 0)) (md_p 4 c 2) (md_p 4 (e + 1) 0)) = (md_M (md_M (md_M h (md_p 4 c 1) (md_p 4 e 0)) (md_p 4 c 2) (md_p 4 (e + 1) 0)) (md_p 4 d 1) (md_p 4 (e + 2) 0)) := md_Mc i1 t1_E2_0 t1_E1_0 (yl_pn (by omega) (by omega) (by omega)) (yl_pn (by omega) (by omega) (by omega)) (yl_pn (by omega) (by omega) (by omega)) (yl_pn (by omega) (by omega) (by omega)) (yl_pn (by omega) (by omega) (by omega)) (yl_pn (by omega) (by omega) (by omega))
  unfold wpY_copyEachOther
  dsimp only
  refine yl_mk (by omega) rfl ?_
  dsimp only
  refine yl_mk (e := e + 1) (by omega) rfl ?_
  dsimp only
  refine yl_mk (e := e + 2) (by omega) rfl ?_
  dsimp only
  refine yl_mk (e := e + 3) (by omega) rfl ?_
  dsimp only
  refine ⟨0 + 1 + 1 + 1, ?_⟩
  refine br_f (by decide) ?_
  refine yl_po (s := 1) ?_
  refine yl_po (s := 1) ?_
  refine br_t rfl ?_
  unfold wY_copyEachOther_67
  refine yl_po (s := 0) ?_
  refine br_t rfl ?_
  unfold wY_copyEachOther_87
  refine yl_po (s := 0) ?_
  refine yl_mv (by omega) W i0 (yl_pb (by omega) (by omega)) (yl_pb (by omega) (by omega)) t0_E0_0 (fun rf1 rs1 W1 => ?_)
  dsimp only
  refine yl_mv (by omega) W1 i1 (yl_pb (by omega) (by omega)) (yl_pb (by omega) (by omega)) t1_E2_0 (fun rf2 rs2 W2 => ?_)
  dsimp only
  refine nm_r (show (1 : Int32) + 1 = 2 by decide) ?_
  refine br_f (by decide) ?_
  refine yl_po (s := 2) ?_
  refine yl_po (s := 2) ?_
  refine br_f (by decide) ?_
  unfold wY_copyEachOther_67
  refine yl_po (s := 0) ?_
  refine br_f (by decide) ?_
  unfold wY_copyEachOther_87
  refine yl_po (s := 0) ?_
  refine yl_mv (by omega) W2 i2 (yl_pb (by omega) (by omega)) (yl_pb (by omega) (by omega)) t2_E1_0 (fun rf3 rs3 W3 => ?_)
  dsimp only
  refine yl_mv (by omega) W3 i3 (yl_pb (by omega) (by omega)) (yl_pb (by omega) (by omega)) t3_E3_0 (fun rf4 rs4 W4 => ?_)
  dsimp only
  refine nm_r (show (2 : Int32) + 1 = 3 by decide) ?_
  refine br_t (by decide) ?_
  refine yl_po (s := 1) ?_
  refine yl_po (s := 1) ?_
  refine yl_po (s := 1) ?_
  refine yl_po (s := 1) ?_
  rw [yl_r2, yl_r2, yl_r2, yl_r2]
  refine yl_aw (m := m + 0) (by omega) W4 t4_E0_1 t4_E2_1 (yl_pn (by omega) (by omega) (by omega)) (yl_pb (by omega) (by omega)) (yl_pb (by omega) (by omega)) (fun rf5 rs5 W5 => ?_)
  dsimp only
  refine yl_aw (m := m + 1) (by omega) W5 t5_E0_2 t5_E3_1 (yl_pn (by omega) (by omega) (by omega)) (yl_pb (by omega) (by omega)) (yl_pb (by omega) (by omega)) (fun rf6 rs6 W6 => ?_)
  dsimp only
  refine yl_aw (m := m + 2) (by omega) W6 t6_E1_1 t6_E2_2 (yl_pn (by omega) (by omega) (by omega)) (yl_pb (by omega) (by omega)) (yl_pb (by omega) (by omega)) (fun rf7 rs7 W7 => ?_)
  dsimp only
  refine yl_aw (m := m + 3) (by omega) W7 t7_E1_2 t7_E3_2 (yl_pn (by omega) (by omega) (by omega)) (yl_pb (by omega) (by omega)) (yl_pb (by omega) (by omega)) (fun rf8 rs8 W8 => ?_)
  rw [cm] at W8
  exact H rf8 rs8 W8
end
end
section
/-! the reference's run -/
def yl_R (n : Nat) (N : fz_N) (e l m : Nat) (rk rf rs : Nat → Int32) (h g : Nat → Nat) : Prop := md_R 4 yl_E yl_U e rk h g N ∧ yl_W m rf rs h ∧ N.2.2 = l + n ∧ e ≤ 10 + 4 * n ∧ m ≤ 20 + 3 * n
theorem yl_Rb {n : Nat} {N : fz_N} {e l m : Nat} {rk rf rs : Nat → Int32} {h g : Nat → Nat} (R : yl_R n N e l m rk rf rs h g) (hn : n ≤ 120) : yl_b h := by
  intro x hx
  have r6 := R.1.2.2.2.2.2.2.2
  by_cases d : md_D 4 yl_E (md_v e rk) x
  · have q := md_DB e 0 rk _ (r6.1 x d).1
    have h2 := R.2.2.2.1
    unfold yl_E at q
    omega
  · rw [r6.2 x d]
    exact hx
theorem yl_Rt {n : Nat} {N : fz_N} {e l m : Nat} {rk rf rs : Nat → Int32} {h g : Nat → Nat} (R : yl_R n N e l m rk rf rs h g) : ∀ t s, e ≤ t → s < 3 → h (md_p 4 t s) = md_p 4 t s := by
  intro t s ht hs
  have r6 := R.1.2.2.2.2.2.2.2
  refine r6.2 _ (fun z => ?_)
  have q := md_DB e 0 rk _ z
  unfold yl_E md_p at q
  omega
section
variable {gc gw ge gl gs : Int32} {bk bf bs rk rf rs mt : Nat → Int32}
theorem yl_st {post : SY → Prop} {n : Nat} {N : fz_N} {e l m : Nat} {h g : Nat → Nat} (R : yl_R n N e l m rk rf rs h g) (hn : n < 120) {i a b : Nat} (him : i < m) (efa : rf i = nI (md_p 4 a 0)) (efb : rs i = nI (md_p 4 b 0)) (F : xl_F rk h 4 e a b)
    (H : ∀ e' l' m' rk' rf' rs' h' g', yl_R (n + 1) (fz_st N (g a) (g b)) e' l' m' rk' rf' rs' h' g' → post (gc, gw, nI e', nI m', nI l', gs, bk, bf, bs, rk', rf', rs', mt)) :
    wpY_step post (gc, gw, nI e, nI m, nI l, gs, bk, bf, bs, rk, rf, rs, mt) (nI i) := by
  have R0 := R
  obtain ⟨M, W, eL, e4, m3⟩ := R
  obtain ⟨ha, hb, la, lb, hab, hh⟩ := F
  have hbd := yl_Rb R0 (by omega)
  have hi := md_Rh M
  have hfr := yl_Rt R0
  have nba : b ≠ a := fun z => hab z.symm
  have hh' : h (md_p 4 b 0) = md_p 4 a 0 := by rw [← hh]; exact hi _
  obtain ⟨AC, k3a, k3b⟩ := md_face M ha hb la lb hab hh
  have pab : md_p 4 a 0 ≠ md_p 4 b 0 := yl_pn (by omega) (by omega) hab
  have pba : md_p 4 b 0 ≠ md_p 4 a 0 := fun z => pab z.symm
  obtain ⟨f, s, A, G⟩ := W
  have ga := G.1 i him
  have fa : f i = md_p 4 a 0 := (nI_eq (by omega) (by unfold md_p; omega)).mp ((A i him).1.symm.trans efa)
  have sb : s i = md_p 4 b 0 := (nI_eq (by omega) (by unfold md_p; omega)).mp ((A i him).2.symm.trans efb)
  unfold wpY_step
  dsimp only
  rw [nI_clamp (show i < 2 ^ 31 by omega), efa, efb, yl_cel (by omega), yl_cel (by omega)]
  refine ⟨vp_in_nI (by omega) (by omega), by decide, nm_e ⟨vp_in_nI (by omega) (by omega), by decide, nm_e ⟨vp_in_nI (by omega) (by omega), ?_⟩⟩⟩
  rw [nI_clamp (show a < 2 ^ 31 by omega), nI_clamp (show b < 2 ^ 31 by omega)]
  refine nm_e ⟨vp_in_nI (by omega) (by omega), nm_e ?_⟩
  refine yl_tw (by omega) him A G (fun rf1 rs1 W1 => ?_)
  rw [fa, sb, yl_Cl hi pab hh] at W1
  dsimp only
  refine ⟨vp_in_nI (by omega) (by omega), nm_e ⟨vp_in_nI (by omega) (by omega), nm_e ?_⟩⟩
  have i1 : fz_I (fz_F h (md_p 4 a 0) (md_p 4 b 0)) := fz_inv hi pab
  have b1 : yl_b (fz_F h (md_p 4 a 0) (md_p 4 b 0)) := yl_bF hbd (yl_pb (by omega) (by omega)) (yl_pb (by omega) (by omega))
  have es : fz_F h (md_p 4 b 0) (md_p 4 a 0) = fz_F h (md_p 4 a 0) (md_p 4 b 0) := funext (fz_symm hi pba)
  have eu := md_uc (rk := rk) hab
  have fr1 : ∀ t s, e ≤ t → s < 3 → fz_F h (md_p 4 a 0) (md_p 4 b 0) (md_p 4 t s) = md_p 4 t s := fun t s ht hs => md_FK (hfr t s ht hs) (yl_pn hs (by omega) (by omega)) (yl_pn hs (by omega) (by omega)) (yl_pn hs (by omega) (by omega)) (yl_pn hs (by omega) (by omega))
  have k2 : ∀ k : Int32, fz_k3 k → (2 ≤ k ↔ k = 2) := by
    intro k hk
    rcases hk with z | z | z <;> rw [z] <;> decide
  have k2a := k2 _ k3a
  have k2b := k2 _ k3b
  by_cases ck : rk a = rk b
  · refine br_t ck ?_
    by_cases c2 : rk a = 2
    · refine br_t (k2a.mpr c2) ?_
      unfold wY_step_109
      refine br_t (k2a.mpr c2) ?_
      unfold wY_step_148
      refine br_t ck ?_
      have q := md_s0 M ha hb la lb hab hh c2 (ck ▸ c2)
      exact H _ _ _ _ _ _ _ _ ⟨q.1, W1, by rw [q.2, eL]; omega, by omega, by omega⟩
    · refine br_f (fun z => c2 (k2a.mp z)) ?_
      have q := md_s1 M ha hb la lb hab hh ck c2
      rw [yl_q1, yl_q1, yl_q2, yl_q2]
      refine yl_me (by omega) W1 i1 (yl_pb (by omega) (by omega)) (yl_pb (by omega) (by omega)) (yl_pn (by omega) (by omega) hab) b1 (fun m2 rf2 rs2 hm2 W2 => ?_)
      dsimp only
      have i2 : fz_I (fz_F (fz_F h (md_p 4 a 0) (md_p 4 b 0)) (md_p 4 a 1) (md_p 4 b 1)) := fz_inv i1 (yl_pn (by omega) (by omega) hab)
      have b2 : yl_b (fz_F (fz_F h (md_p 4 a 0) (md_p 4 b 0)) (md_p 4 a 1) (md_p 4 b 1)) := yl_bF b1 (yl_pb (by omega) (by omega)) (yl_pb (by omega) (by omega))
      refine yl_me (by omega) W2 i2 (yl_pb (by omega) (by omega)) (yl_pb (by omega) (by omega)) (yl_pn (by omega) (by omega) hab) b2 (fun m3' rf3 rs3 hm3 W3 => ?_)
      exact H _ _ _ _ _ _ _ _ ⟨q.1, W3, by rw [q.2, eL]; omega, by omega, by omega⟩
  · refine br_f ck ?_
    unfold wY_step_109
    by_cases ca : rk a = 2
    · refine br_t (k2a.mpr ca) ?_
      unfold wY_step_148
      refine br_f ck (br_t ca ?_)
      unfold wY_step_167
      have cb : rk b ≠ 2 := fun z => ck (ca.trans z.symm)
      obtain ⟨g', q1, q2⟩ := md_er M hb ha lb la nba hh' cb ca
      rw [es, eu, fz_st_sym M.1 (fz_acs M.1 AC)] at q1
      rw [fz_st_sym M.1 (fz_acs M.1 AC)] at q2
      refine yl_er (by omega) (by omega) hb W1 i1 b1 (fr1 e 0 (by omega) (by omega)) (fr1 (e + 1) 0 (by omega) (by omega)) (fun rf2 rs2 W2 => ?_)
      exact H _ _ _ _ _ _ _ _ ⟨q1, W2, by rw [q2, eL]; omega, by omega, by omega⟩
    · refine br_f (fun z => ca (k2a.mp z)) ?_
      by_cases cb : rk b = 2
      · refine br_t (k2b.mpr cb) ?_
        unfold wY_step_148
        refine br_f ck (br_f ca ?_)
        unfold wY_step_167
        obtain ⟨g', q1, q2⟩ := md_er M ha hb la lb hab hh ca cb
        refine yl_er (by omega) (by omega) ha W1 i1 b1 (fr1 e 0 (by omega) (by omega)) (fr1 (e + 1) 0 (by omega) (by omega)) (fun rf2 rs2 W2 => ?_)
        exact H _ _ _ _ _ _ _ _ ⟨q1, W2, by rw [q2, eL]; omega, by omega, by omega⟩
      · refine br_f (fun z => cb (k2b.mp z)) ?_
        by_cases c0 : rk a = 0
        · refine br_t c0 ?_
          unfold wY_step_132
          refine br_t c0 ?_
          unfold wY_step_142
          have c1 : rk b = 1 := by
            rcases k3b with z | z | z
            · exact absurd (c0.trans z.symm) ck
            · exact z
            · exact absurd z cb
          obtain ⟨g', q1, q2⟩ := md_cp M ha hb la lb hab hh c0 c1
          refine yl_cp (by omega) (by omega) ha hb hab W1 i1 b1 fr1 (fun rf2 rs2 W2 => ?_)
          exact H _ _ _ _ _ _ _ _ ⟨q1, W2, by rw [q2, eL]; omega, by omega, by omega⟩
        · refine br_f c0 ?_
          unfold wY_step_132
          refine br_f c0 ?_
          unfold wY_step_142
          have c1 : rk a = 1 := by
            rcases k3a with z | z | z
            · exact absurd z c0
            · exact z
            · exact absurd z ca
          have d0 : rk b = 0 := by
            rcases k3b with z | z | z
            · exact z
            · exact absurd (c1.trans z.symm) ck
            · exact absurd z cb
          obtain ⟨g', q1, q2⟩ := md_cp M hb ha lb la nba hh' d0 c1
          rw [es, eu, fz_st_sym M.1 (fz_acs M.1 AC)] at q1
          rw [fz_st_sym M.1 (fz_acs M.1 AC)] at q2
          refine yl_cp (by omega) (by omega) hb ha nba W1 i1 b1 fr1 (fun rf2 rs2 W2 => ?_)
          exact H _ _ _ _ _ _ _ _ ⟨q1, W2, by rw [q2, eL]; omega, by omega, by omega⟩
theorem yl_hd {post : Int32 → Prop} {gm : Int32} {p : Nat} (hp : p < 2000) (h0 : (p < 4 ∨ (p - 4) % 3 ≠ 0) → post 0) (h1 : 4 ≤ p → (p - 4) % 3 = 0 → post 1) : wpY_isHead post (gc, gw, ge, gm, gl, gs, bk, bf, bs, rk, rf, rs, mt) (nI p) := by
  unfold wpY_isHead
  dsimp only
  by_cases c : p < 4
  · exact br_t (nI_le (b := 3) (by omega) (by omega)) (h0 (Or.inl c))
  · rw [show nI p - 4 = nI (p - 4) from pk_sub (b := 4) (by omega), xl_rm (by omega)]
    refine br_f (nI_ge (a := 3) (by omega) (by omega)) ⟨by decide, ?_⟩
    by_cases d : (p - 4) % 3 = 0
    · rw [d]
      exact br_t nI_0 (h1 (by omega) d)
    · exact br_f (nI_ne0 (by omega) (by omega)) (h0 (Or.inr d))
theorem yl_fc {post : Int32 → Prop} {n : Nat} {N : fz_N} {e l m : Nat} {h g : Nat → Nat} (R : yl_R n N e l m rk rf rs h g) (hn : n ≤ 120) (h1 : fz_no N → post (-1)) (h2 : ∀ i a b, i < m → rf i = nI (md_p 4 a 0) → rs i = nI (md_p 4 b 0) → xl_F rk h 4 e a b → post (nI i)) :
    wpY_findFacing post (gc, gw, nI e, nI m, gl, gs, bk, bf, bs, rk, rf, rs, mt) := by
  have m3 := R.2.2.2.2
  obtain ⟨f, s, A, G⟩ := R.2.1
  have r6 := R.1.2.2.2.2.2.2.2
  have live : ∀ p, h p ≠ p → 4 ≤ p → (p - 4) / 3 < e ∧ rk ((p - 4) / 3) ≠ -1 := by
    intro p hp h4
    have d : md_D 4 yl_E (md_v e rk) p := by
      by_cases q : md_D 4 yl_E (md_v e rk) p
      · exact q
      · exact absurd (r6.2 _ q) hp
    have q := md_DB e 0 rk _ d
    unfold yl_E at q
    rcases q with q | ⟨_, q | q⟩
    · omega
    · exact q
    · omega
  have key : ∀ d i, i + d = m → (∀ j, j < i → ¬ (4 ≤ f j ∧ (f j - 4) % 3 = 0 ∧ 4 ≤ s j ∧ (s j - 4) % 3 = 0)) → wY_findFacing_2 post gc gw (nI e) (nI m) gl gs bk bf bs rk rf rs mt (d + 1) (nI i) := by
    intro d
    induction d with
    | zero =>
      intro i hi hj
      refine br_t (nI_le (by omega) (by omega)) (h1 (md_no R.1 (fun c c' q1 q2 q3 q4 q5 q6 => ?_)))
      have q7 : h (md_p 4 c 0) ≠ md_p 4 c 0 := by
        rw [q6]
        exact yl_pn (by omega) (by omega) (fun z => q5 z.symm)
      obtain ⟨j, hjm, ej⟩ := G.2.1 _ q7
      have gj := G.1 j hjm
      apply hj j (by omega)
      rcases ej with ej | ej
      · have e2 : s j = md_p 4 c' 0 := by rw [← gj.2.2.2.1, ej, q6]
        rw [ej, e2]
        unfold md_p
        omega
      · have e2 : f j = md_p 4 c' 0 := by rw [← gj.2.2.2.2, ej, q6]
        rw [ej, e2]
        unfold md_p
        omega
    | succ d ih =>
      intro i hi hj
      have a := A i (by omega)
      have b := G.1 i (by omega)
      refine br_f (nI_ge (by omega) (by omega)) ⟨vp_in_nI (by omega) (by omega), ?_⟩
      rw [nI_clamp (show i < 2 ^ 31 by omega), a.1, a.2]
      have next : ¬ (4 ≤ f i ∧ (f i - 4) % 3 = 0 ∧ 4 ≤ s i ∧ (s i - 4) % 3 = 0) → wY_findFacing_2 post gc gw (nI e) (nI m) gl gs bk bf bs rk rf rs mt (d + 1) (nI (i + 1)) := by
        intro ni
        refine ih (i + 1) (by omega) (fun j hj' => ?_)
        by_cases e : j = i
        · rw [e]; exact ni
        · exact hj j (by omega)
      refine yl_hd b.1 (fun z => ?_) (fun z1 z2 => ?_)
      · exact br_t rfl (nm_r (nI_1 i) (next (by omega)))
      · refine br_f (by decide) ⟨vp_in_nI (by omega) (by omega), ?_⟩
        refine yl_hd b.2.1 (fun z => ?_) (fun z3 z4 => ?_)
        · exact br_t rfl (nm_r (nI_1 i) (next (by omega)))
        · refine br_f (by decide) ?_
          have ef : f i = md_p 4 ((f i - 4) / 3) 0 := by unfold md_p; omega
          have es : s i = md_p 4 ((s i - 4) / 3) 0 := by unfold md_p; omega
          have lf := live (f i) (by rw [b.2.2.2.1]; exact fun z => b.2.2.1 z.symm) z1
          have ls := live (s i) (by rw [b.2.2.2.2]; exact b.2.2.1) z3
          refine h2 i ((f i - 4) / 3) ((s i - 4) / 3) (by omega) ?_ ?_ ⟨lf.1, ls.1, lf.2, ls.2, fun z => b.2.2.1 (by rw [ef, es, z]), ?_⟩
          · rw [← ef]; exact a.1
          · rw [← es]; exact a.2
          · rw [← ef, ← es]; exact b.2.2.2.1
  exact ⟨_, key m 0 (by omega) (fun j hj => by omega)⟩
theorem yl_lp {post : Int32 → SY → Prop} {N0 : fz_N}
    (H : ∀ k N e l m rk rf rs h g, k ≤ 120 → fz_pa k N0 N → yl_R k N e l m rk rf rs h g → (fz_no N → post 1 (gc, gw, nI e, nI m, nI l, nI k, bk, bf, bs, rk, rf, rs, mt)) ∧ (k = 120 → ¬ fz_no N → post 0 (gc, gw, nI e, nI m, nI l, nI k, bk, bf, bs, rk, rf, rs, mt))) :
    ∀ d k N e l m rk rf rs h g r, k + d = 120 → fz_pa k N0 N → yl_R k N e l m rk rf rs h g → ((r = -1 ∧ fz_no N) ∨ ∃ i a b, r = nI i ∧ i < m ∧ rf i = nI (md_p 4 a 0) ∧ rs i = nI (md_p 4 b 0) ∧ xl_F rk h 4 e a b) →
      wY_run_99 post (d + 1) r gc gw (nI e) (nI m) (nI l) (nI k) bk bf bs rk rf rs mt := by
  intro d
  induction d with
  | zero =>
    intro k N e l m rk rf rs h g r hk pa R hr
    have HH := H k N e l m rk rf rs h g (by omega) pa R
    have m3 := R.2.2.2.2
    rcases hr with ⟨r1, r2⟩ | ⟨i, a, b, r1, r2, r3, r4, r5⟩
    · rw [r1]
      refine br_t (by decide) ?_
      unfold wY_run_135
      exact br_f (by decide) (HH.1 r2)
    · rw [r1]
      refine br_f (nI_pos (by omega)) (br_t (nI_le (a := 120) (by omega) (by omega)) ?_)
      unfold wY_run_135
      refine br_t (nI_pos' (by omega)) (HH.2 (by omega) (fun no => ?_))
      exact no _ _ (md_face R.1 r5.1 r5.2.1 r5.2.2.1 r5.2.2.2.1 r5.2.2.2.2.1 r5.2.2.2.2.2).1
  | succ d ih =>
    intro k N e l m rk rf rs h g r hk pa R hr
    have HH := H k N e l m rk rf rs h g (by omega) pa R
    have m3 := R.2.2.2.2
    rcases hr with ⟨r1, r2⟩ | ⟨i, a, b, r1, r2, r3, r4, r5⟩
    · rw [r1]
      refine br_t (by decide) ?_
      unfold wY_run_135
      exact br_f (by decide) (HH.1 r2)
    · rw [r1]
      refine br_f (nI_pos (by omega)) (br_f (nI_ge (b := 120) (by omega) (by omega)) ?_)
      refine yl_st R (by omega) r2 r3 r4 r5 (fun e' l' m' rk' rf' rs' h' g' R' => ?_)
      dsimp only
      refine nm_r (nI_1 k) ?_
      have pa' := fz_snoc k N0 N _ _ pa (md_face R.1 r5.1 r5.2.1 r5.2.2.1 r5.2.2.2.1 r5.2.2.2.2.1 r5.2.2.2.2.2).1
      refine yl_fc R' (by omega) (fun no => ?_) (fun i' a' b' q1 q2 q3 q4 => ?_)
      · exact ih (k + 1) _ e' l' m' rk' rf' rs' h' g' _ (by omega) pa' R' (Or.inl ⟨rfl, no⟩)
      · exact ih (k + 1) _ e' l' m' rk' rf' rs' h' g' _ (by omega) pa' R' (Or.inr ⟨i', a', b', rfl, q1, q2, q3, q4⟩)
theorem yl_c2 {post : Int32 → SY → Prop} {gm : Int32} {m : Nat} (hm : m ≤ 20) (hgw : gw = nI m)
    (H : ∀ rf' rs', (∀ p, p < m → rf' p = bf p ∧ rs' p = bs p) → wpY_findFacing (fun r => ∃ n99 : Nat, wY_run_99 post n99 r gc gw ge gw 0 0 bk bf bs rk rf' rs' mt) (gc, gw, ge, gw, 0, 0, bk, bf, bs, rk, rf', rs', mt)) :
    ∀ d i rf rs, i + d = m → (∀ p, p < i → rf p = bf p ∧ rs p = bs p) → wY_run_38 post gc gw ge gm gl gs (d + 1) (nI i) bk bf bs rk rf rs mt := by
  subst hgw
  intro d
  induction d with
  | zero =>
    intro i rf rs hi hq
    exact br_t (nI_le (by omega) (by omega)) (H rf rs (fun p hp => hq p (by omega)))
  | succ d ih =>
    intro i rf rs hi hq
    refine br_f (nI_ge (by omega) (by omega)) ?_
    rw [nI_clamp (show i < 2 ^ 31 by omega)]
    refine ⟨vp_in_nI (by omega) (by omega), vp_in_nI (by omega) (by omega), nm_e ⟨vp_in_nI (by omega) (by omega), vp_in_nI (by omega) (by omega), nm_e (nm_r (nI_1 i) (ih (i + 1) _ _ (by omega) (fun p hp => ?_)))⟩⟩
    by_cases c : p = i
    · rw [c, pk_us, pk_us]; exact ⟨rfl, rfl⟩
    · rw [pk_un c, pk_un c]; exact hq p (by omega)
theorem yl_c1 {post : Int32 → SY → Prop} {gm : Int32} {c m : Nat} (hc : c ≤ 10) (hgc : gc = nI c) (hm : m ≤ 20) (hgw : gw = nI m)
    (H : ∀ rk' rf' rs', (∀ p, p < c → rk' p = bk p) → (∀ p, p < m → rf' p = bf p ∧ rs' p = bs p) → wpY_findFacing (fun r => ∃ n99 : Nat, wY_run_99 post n99 r gc gw gc gw 0 0 bk bf bs rk' rf' rs' mt) (gc, gw, gc, gw, 0, 0, bk, bf, bs, rk', rf', rs', mt)) :
    ∀ d i rk, i + d = c → (∀ p, p < i → rk p = bk p) → wY_run_2 post gc gw ge gm gl gs (d + 1) (nI i) bk bf bs rk rf rs mt := by
  subst hgc
  intro d
  induction d with
  | zero =>
    intro i rk hi hq
    refine br_t (nI_le (by omega) (by omega)) ⟨m + 1, ?_⟩
    exact yl_c2 hm hgw (fun rf' rs' hw => H rk rf' rs' (fun p hp => hq p (by omega)) hw) m 0 rf rs (by omega) (fun p hp => by omega)
  | succ d ih =>
    intro i rk hi hq
    refine br_f (nI_ge (by omega) (by omega)) ?_
    rw [nI_clamp (show i < 2 ^ 31 by omega)]
    refine ⟨vp_in_nI (by omega) (by omega), vp_in_nI (by omega) (by omega), nm_e (nm_r (nI_1 i) (ih (i + 1) _ (by omega) (fun p hp => ?_)))⟩
    by_cases z : p = i
    · rw [z, pk_us]
    · rw [pk_un z]; exact hq p (by omega)
/-- a run of the reference, from a net that its copy is -/
theorem yl_run {post : Int32 → SY → Prop} {gm : Int32} {c m : Nat} {N0 : fz_N} {h0 g0 : Nat → Nat} (hc : c ≤ 10) (hgc : gc = nI c) (hm : m ≤ 20) (hgw : gw = nI m)
    (R0 : ∀ rk' rf' rs', (∀ p, p < c → rk' p = bk p) → (∀ p, p < m → rf' p = bf p ∧ rs' p = bs p) → yl_R 0 N0 c 0 m rk' rf' rs' h0 g0)
    (H : ∀ k N e l m rk rf rs h g, k ≤ 120 → fz_pa k N0 N → yl_R k N e l m rk rf rs h g → (fz_no N → post 1 (gc, gw, nI e, nI m, nI l, nI k, bk, bf, bs, rk, rf, rs, mt)) ∧ (k = 120 → ¬ fz_no N → post 0 (gc, gw, nI e, nI m, nI l, nI k, bk, bf, bs, rk, rf, rs, mt))) :
    wpY_run post (gc, gw, ge, gm, gl, gs, bk, bf, bs, rk, rf, rs, mt) := by
  unfold wpY_run
  dsimp only
  refine ⟨c + 1, ?_⟩
  refine yl_c1 hc hgc hm hgw (fun rk' rf' rs' h1 h2 => ?_) c 0 rk (by omega) (fun p hp => by omega)
  have R := R0 rk' rf' rs' h1 h2
  rw [hgc, hgw] at *
  refine yl_fc R (by omega) (fun no => ?_) (fun i a b q1 q2 q3 q4 => ?_)
  · exact ⟨121, yl_lp H 120 0 N0 c 0 m rk' rf' rs' h0 g0 _ (by omega) rfl R (Or.inl ⟨rfl, no⟩)⟩
  · exact ⟨121, yl_lp H 120 0 N0 c 0 m rk' rf' rs' h0 g0 _ (by omega) rfl R (Or.inr ⟨i, a, b, rfl, q1, q2, q3, q4⟩)⟩
end
end
section
/-! counting; the relation between the two objects; the net that a run begins with -/
def cn_c (p : Nat → Bool) : Nat → Nat
  | 0 => 0
  | n + 1 => cn_c p n + (if p n = true then 1 else 0)
theorem cn_rm : ∀ (m : Nat) (q : Nat → Bool) (j : Nat), j < m → q j = true → cn_c q m = cn_c (fun i => q i && !(decide (i = j))) m + 1
  | 0, _, _, h, _ => absurd h (Nat.not_lt_zero _)
  | m + 1, q, j, h, hq => by
    show cn_c q m + _ = cn_c _ m + _ + 1
    by_cases e : j = m
    · subst e
      have same : ∀ k, k ≤ j → cn_c (fun i => q i && !(decide (i = j))) k = cn_c q k := by
        intro k
        induction k with
        | zero => intro _; rfl
        | succ k ih =>
          intro hk
          have d : decide (k = j) = false := decide_eq_false (by omega)
          show cn_c _ k + _ = cn_c q k + _
          rw [ih (by omega)]
          simp [d]
      rw [same j (Nat.le_refl j), if_pos hq]
      simp
    · have r := cn_rm m q j (by omega) hq
      have d : decide (m = j) = false := decide_eq_false (by omega)
      rw [r]
      simp only [d, Bool.not_false, Bool.and_true]
      omega
theorem cn_rel {R : Nat → Nat → Prop} {p : Nat → Bool} {m : Nat} : ∀ (n : Nat) (q : Nat → Bool), (∀ i, i < n → p i = true → ∃ j, j < m ∧ q j = true ∧ R i j) →
    (∀ i i' j, i < n → i' < n → p i = true → p i' = true → R i j → R i' j → i = i') → cn_c p n ≤ cn_c q m
  | 0, _, _, _ => Nat.zero_le _
  | n + 1, q, h1, h2 => by
    show cn_c p n + _ ≤ _
    by_cases e : p n = true
    · obtain ⟨j, hj, qj, rj⟩ := h1 n (by omega) e
      have r := cn_rel (R := R) (p := p) (m := m) n (fun i => q i && !(decide (i = j))) (fun i hi pi => by
        obtain ⟨j', hj', qj', rj'⟩ := h1 i (by omega) pi
        have ne : j' ≠ j := by
          intro z
          rw [z] at rj'
          have := h2 i n j (by omega) (by omega) pi e rj' rj
          omega
        refine ⟨j', hj', ?_, rj'⟩
        show (q j' && !(decide (j' = j))) = true
        rw [qj', decide_eq_false ne]
        rfl) (fun i i' j hi hi' => h2 i i' j (by omega) (by omega))
      rw [if_pos e, cn_rm m q j hj qj]
      omega
    · rw [if_neg e]
      exact cn_rel (R := R) (p := p) (m := m) n q (fun i hi => h1 i (by omega)) (fun i i' j hi hi' => h2 i i' j (by omega) (by omega))
theorem cn_all : ∀ n, cn_c (fun _ => true) n = n
  | 0 => rfl
  | n + 1 => by
    show cn_c _ n + _ = _
    rw [cn_all n, if_pos rfl]
def ir_in (p : Nat) : Nat := if p < 30 then p + 4 else if p < 34 then p - 30 else p
def ir_ou (q : Nat) : Nat := if q < 4 then q + 30 else if q < 34 then q - 4 else q
theorem ir_oi (p : Nat) : ir_ou (ir_in p) = p := by
  unfold ir_ou ir_in
  split
  · rw [if_neg (by omega), if_pos (by omega)]; omega
  · split
    · rw [if_pos (by omega)]; omega
    · rw [if_neg (by omega)]
theorem ir_io (q : Nat) : ir_in (ir_ou q) = q := by
  unfold ir_ou ir_in
  split
  · rw [if_neg (by omega), if_pos (by omega)]; omega
  · split
    · rw [if_pos (by omega)]; omega
    · rw [if_neg (by omega)]
def ir_hY (h : Nat → Nat) (q : Nat) : Nat := ir_in (h (ir_ou q))
def ir_D (c : Nat) (k : Nat → Int32) (p : Nat) : Prop := (30 ≤ p ∧ p ≤ 33) ∨ (p / 3 < c ∧ p % 3 < md_pk (k (p / 3)))
def ir_H (c : Nat) (k : Nat → Int32) (h : Nat → Nat) : Prop := fz_I h ∧ (∀ p, ir_D c k p → ir_D c k (h p)) ∧ ∀ p, ¬ ir_D c k p → h p = p
/-- what two related objects hold: the same cells, the same wires -/
def ir_R (c m : Nat) (ak aw bf bs : Nat → Int32) (h : Nat → Nat) : Prop :=
  c ≤ 10 ∧ (∀ i, i < c → fz_k3 (ak i)) ∧ ir_H c ak h ∧ (∀ p, p < 34 → aw p = md_fo p (h p)) ∧ yl_W m bf bs (ir_hY h)
theorem ir_hI {h : Nat → Nat} (hi : fz_I h) : fz_I (ir_hY h) := by
  intro q
  unfold ir_hY
  rw [ir_oi, hi, ir_io]
theorem ir_D34 {c : Nat} {k : Nat → Int32} (hc : c ≤ 10) {p : Nat} (h : ir_D c k p) : p < 34 := by
  unfold ir_D at h
  omega
theorem ir_m {c m : Nat} {ak aw bf bs : Nat → Int32} {h : Nat → Nat} (R : ir_R c m ak aw bf bs h) : m ≤ 17 := by
  obtain ⟨hc, _, H, _, f, s, A, G⟩ := R
  have lt : ∀ x, ir_hY h x ≠ x → x < 34 := by
    intro x hx
    by_cases d : ir_D c ak (ir_ou x)
    · have := ir_D34 hc d
      have e := ir_io x
      unfold ir_in at e
      split at e <;> omega
    · exfalso
      apply hx
      unfold ir_hY
      rw [H.2.2 _ d, ir_io]
  have r := cn_rel (R := fun i j => (if i < m then f i else s (i - m)) = j) (p := fun _ => true) (m := 34) (m + m) (fun _ => true) (fun i hi _ => by
    refine ⟨_, ?_, rfl, rfl⟩
    by_cases c : i < m
    · rw [if_pos c]
      refine lt _ ?_
      rw [(G.1 i c).2.2.2.1]
      exact fun z => (G.1 i c).2.2.1 z.symm
    · rw [if_neg c]
      refine lt _ ?_
      rw [(G.1 (i - m) (by omega)).2.2.2.2]
      exact (G.1 (i - m) (by omega)).2.2.1) (fun i i' j hi hi' _ _ r1 r2 => by
    have e := r1.trans r2.symm
    by_cases c1 : i < m <;> by_cases c2 : i' < m
    · rw [if_pos c1, if_pos c2] at e
      exact G.2.2.1 i i' c1 c2 e
    · rw [if_pos c1, if_neg c2] at e
      exact absurd e (G.2.2.2 i (i' - m) c1 (by omega))
    · rw [if_neg c1, if_pos c2] at e
      exact absurd e.symm (G.2.2.2 i' (i - m) c2 (by omega))
    · rw [if_neg c1, if_neg c2] at e
      have := yl_ss G (i := i - m) (j := i' - m) (by omega) (by omega) e
      omega)
  rw [cn_all, cn_all] at r
  omega
def ir_P (p : Nat) : Nat := 6 * (16 + p / 3) + p % 3
def ir_kd (c : Nat) (k : Nat → Int32) (n : Nat) : Int32 := if 16 ≤ n ∧ n < 16 + c then k (n - 16) else -1
def ir_w (h : Nat → Nat) (x : Nat) : Nat := if 96 ≤ x ∧ x < 168 ∧ x % 6 < 3 then ir_P (h (3 * (x / 6 - 16) + x % 6)) else if 192 ≤ x then 6 * (x / 6) + (x % 6 + 3) % 6 else x
def ir_N (c : Nat) (k : Nat → Int32) (h : Nat → Nat) : fz_N := (ir_kd c k, ir_w h, 0)
theorem ir_h36 {c : Nat} {k : Nat → Int32} {h : Nat → Nat} (hc : c ≤ 10) (H : ir_H c k h) {p : Nat} (hp : p < 36) : h p < 36 := by
  by_cases d : ir_D c k p
  · have := ir_D34 hc (H.2.1 p d)
    omega
  · rw [H.2.2 p d]; exact hp
theorem ir_wP (h : Nat → Nat) {p : Nat} (hp : p < 36) : ir_w h (ir_P p) = ir_P (h p) := by
  have e1 : 96 ≤ ir_P p ∧ ir_P p < 168 ∧ ir_P p % 6 < 3 := by unfold ir_P; omega
  have e2 : 3 * (ir_P p / 6 - 16) + ir_P p % 6 = p := by unfold ir_P; omega
  unfold ir_w
  rw [if_pos e1, e2]
theorem ir_wI {c : Nat} {k : Nat → Int32} {h : Nat → Nat} (hc : c ≤ 10) (H : ir_H c k h) : fz_I (ir_w h) := by
  intro x
  by_cases a : 96 ≤ x ∧ x < 168 ∧ x % 6 < 3
  · have ex : x = ir_P (3 * (x / 6 - 16) + x % 6) := by unfold ir_P; omega
    have lt : 3 * (x / 6 - 16) + x % 6 < 36 := by omega
    rw [ex, ir_wP h lt, ir_wP h (ir_h36 hc H lt), H.1]
  · by_cases b : 192 ≤ x
    · have e1 : ir_w h x = 6 * (x / 6) + (x % 6 + 3) % 6 := by unfold ir_w; rw [if_neg a, if_pos b]
      have n1 : ¬ (96 ≤ 6 * (x / 6) + (x % 6 + 3) % 6 ∧ 6 * (x / 6) + (x % 6 + 3) % 6 < 168 ∧ (6 * (x / 6) + (x % 6 + 3) % 6) % 6 < 3) := by omega
      rw [e1]
      unfold ir_w
      rw [if_neg n1, if_pos (by omega)]
      omega
    · have e1 : ir_w h x = x := by unfold ir_w; rw [if_neg a, if_neg b]
      rw [e1, e1]
theorem ir_ok {c : Nat} {k : Nat → Int32} {h : Nat → Nat} (hc : c ≤ 10) (hk : ∀ i, i < c → fz_k3 (k i)) (H : ir_H c k h) : fz_ok (ir_N c k h) := by
  refine ⟨ir_wI hc H, fun a ha => ?_⟩
  have ha' : ir_kd c k a ≠ -1 := ha
  unfold ir_kd at ha'
  by_cases z : 16 ≤ a ∧ a < 16 + c
  · refine ⟨z.1, ?_, fun m hm => ?_⟩
    · show fz_k3 (ir_kd c k a)
      unfold ir_kd
      rw [if_pos z]
      exact hk _ (by omega)
    · have m32 : 32 ≤ m := by
        obtain ⟨j, hj⟩ := hm
        rw [fz_pw] at hj
        have := Nat.div_le_self (m / 2) (2 ^ j)
        omega
      refine ⟨?_, fun i hi => ?_⟩
      · show ir_kd c k m = -1
        unfold ir_kd
        rw [if_neg (by omega)]
      · show ir_w h (6 * m + i) = _
        unfold ir_w
        rw [if_neg (by omega), if_pos (by omega)]
        omega
  · rw [if_neg z] at ha'
    exact absurd rfl ha'
theorem ir_kdl {c : Nat} {k : Nat → Int32} (hk : ∀ i, i < c → fz_k3 (k i)) {n : Nat} (h : ir_kd c k n ≠ -1) : 16 ≤ n ∧ n < 16 + c := by
  unfold ir_kd at h
  by_cases z : 16 ≤ n ∧ n < 16 + c
  · exact z
  · rw [if_neg z] at h
    exact absurd rfl h
theorem ir_k3m {k : Int32} (h : fz_k3 k) : k ≠ -1 := by
  rcases h with z | z | z <;> rw [z] <;> decide
theorem ir_X {c : Nat} {k rk rw aw : Nat → Int32} {h : Nat → Nat} (hc : c ≤ 10) (hk : ∀ i, i < c → fz_k3 (k i)) (H : ir_H c k h) (haw : ∀ p, p < 34 → aw p = md_fo p (h p))
    (hrk : ∀ p, p < 492 → rk p = if p < c then k p else -1) (hrw : ∀ p, p < 1476 → rw p = if p < 34 then aw p else -1) : xl_R 0 (ir_N c k h) 12 0 rk rw h (fun c => 16 + c) := by
  have kin : ∀ i, i < c → ir_kd c k (16 + i) = k i := by
    intro i hi
    unfold ir_kd
    rw [if_pos (by omega), show 16 + i - 16 = i by omega]
  have live : ∀ i, i < 12 → rk i ≠ -1 → i < c ∧ rk i = k i := by
    intro i hi l
    have := hrk i (by omega)
    by_cases z : i < c
    · rw [if_pos z] at this
      exact ⟨z, this⟩
    · rw [if_neg z] at this
      exact absurd this l
  have PX : ∀ p, md_P 0 xl_U (fun c => 16 + c) p = ir_P p := by
    intro p
    unfold md_P ir_P
    rw [if_pos (Nat.zero_le _), Nat.sub_zero]
  have DX : ∀ p, ir_D c k p ↔ md_D 0 xl_E (md_v 12 rk) p := by
    intro p
    unfold ir_D md_D xl_E md_v
    rw [Nat.sub_zero]
    by_cases z : p / 3 < 12
    · have := hrk (p / 3) (by omega)
      rw [if_pos z, this]
      by_cases y : p / 3 < c
      · rw [if_pos y]
        have : 0 ≤ p := Nat.zero_le p
        simp only [y, this, true_and]
      · rw [if_neg y, md_pk_m]
        omega
    · rw [if_neg z]
      omega
  refine ⟨⟨ir_ok hc hk H, ⟨?_, ?_⟩, ?_, ?_, ?_, ?_, ?_, ?_⟩, ?_, rfl, by omega, by omega⟩
  · show ir_kd c k 26 = -1
    unfold ir_kd
    rw [if_neg (by omega)]
  · show ir_kd c k 27 = -1
    unfold ir_kd
    rw [if_neg (by omega)]
  · intro i hi l
    obtain ⟨q1, q2⟩ := live i hi l
    exact (kin i q1).trans q2.symm
  · intro n hn
    have q := ir_kdl hk hn
    refine ⟨n - 16, by omega, ?_, by dsimp only; omega⟩
    rw [hrk _ (by omega), if_pos (by omega)]
    exact ir_k3m (hk _ (by omega))
  · intro i i' _ _ _ _ e
    dsimp only at e
    omega
  · intro p hp
    rw [PX]
    unfold xl_E at hp
    refine ⟨fun _ => ⟨by omega, ?_⟩, by unfold ir_P; omega, by unfold ir_P; omega, rfl⟩
    rw [hrk _ (by omega), if_neg (by omega)]
  · intro p q hp hq e
    rw [PX, PX] at e
    unfold ir_P at e
    unfold xl_E at hp hq
    omega
  · refine ⟨fun p hp => ?_, fun p hp => H.2.2 p (fun z => hp ((DX p).mp z))⟩
    have dp := (DX p).mpr hp
    have l := ir_D34 hc dp
    refine ⟨(DX _).mp (H.2.1 p dp), ?_⟩
    rw [PX, PX]
    exact ir_wP h (by omega)
  · intro p hp
    rw [hrw p hp]
    by_cases z : p < 34
    · rw [if_pos z]
      exact haw p z
    · rw [if_neg z, H.2.2 p (fun d => z (ir_D34 hc d)), md_fo_s]
theorem ir_Y {c m : Nat} {k rk rf rs bf bs : Nat → Int32} {h : Nat → Nat} (hc : c ≤ 10) (hm : m ≤ 20) (hk : ∀ i, i < c → fz_k3 (k i)) (H : ir_H c k h) (W : yl_W m bf bs (ir_hY h))
    (hrk : ∀ p, p < c → rk p = k p) (hrw : ∀ p, p < m → rf p = bf p ∧ rs p = bs p) : yl_R 0 (ir_N c k h) c 0 m rk rf rs (ir_hY h) (fun c => 16 + c) := by
  have kin : ∀ i, i < c → ir_kd c k (16 + i) = k i := by
    intro i hi
    unfold ir_kd
    rw [if_pos (by omega), show 16 + i - 16 = i by omega]
  have PY : ∀ q, q < 34 → md_P 4 yl_U (fun c => 16 + c) q = ir_P (ir_ou q) := by
    intro q hq
    unfold md_P ir_P ir_ou yl_U
    by_cases z : 4 ≤ q
    · rw [if_pos z, if_neg (by omega), if_pos hq]
    · rw [if_neg z, if_pos (show q < 4 by omega)]
      split <;> omega
  have DY : ∀ q, ir_D c k (ir_ou q) ↔ md_D 4 yl_E (md_v c rk) q := by
    intro q
    unfold ir_D md_D yl_E md_v ir_ou
    by_cases z : q < 4
    · rw [if_pos z]
      constructor
      · intro _; exact Or.inl z
      · intro _; left; omega
    · rw [if_neg z]
      by_cases y : q < 34
      · rw [if_pos y]
        by_cases x : (q - 4) / 3 < c
        · rw [if_pos x, hrk _ x]
          omega
        · rw [if_neg x]
          omega
      · rw [if_neg y, if_neg (by omega)]
        omega
  refine ⟨⟨ir_ok hc hk H, ⟨?_, ?_⟩, ?_, ?_, ?_, ?_, ?_, ?_⟩, ?_, rfl, by omega, by omega⟩
  · show ir_kd c k 26 = -1
    unfold ir_kd
    rw [if_neg (by omega)]
  · show ir_kd c k 27 = -1
    unfold ir_kd
    rw [if_neg (by omega)]
  · intro i hi l
    exact (kin i hi).trans (hrk i hi).symm
  · intro n hn
    have q := ir_kdl hk hn
    refine ⟨n - 16, by omega, ?_, by dsimp only; omega⟩
    rw [hrk _ (by omega)]
    exact ir_k3m (hk _ (by omega))
  · intro i i' _ _ _ _ e
    dsimp only at e
    omega
  · intro p hp
    unfold yl_E at hp
    rw [PY p (by omega)]
    refine ⟨fun z => by omega, ?_, ?_, ?_⟩
    · unfold ir_P ir_ou; rw [if_pos hp]; omega
    · unfold ir_P ir_ou; rw [if_pos hp]; omega
    · unfold ir_P ir_ou yl_U; rw [if_pos hp]; split <;> omega
  · intro p q hp hq e
    unfold yl_E at hp hq
    rw [PY p (by omega), PY q (by omega)] at e
    unfold ir_P ir_ou at e
    rw [if_pos hp, if_pos hq] at e
    omega
  · refine ⟨fun q hq => ?_, fun q hq => ?_⟩
    · have dp := (DY q).mpr hq
      have l := ir_D34 hc dp
      have d2 := H.2.1 _ dp
      have l2 := ir_D34 hc d2
      have d3 : ir_D c k (ir_ou (ir_hY h q)) := by
        unfold ir_hY
        rw [ir_oi]
        exact d2
      refine ⟨(DY _).mp d3, ?_⟩
      have lq : q < 34 := by
        have e := ir_io q
        unfold ir_in at e
        split at e <;> omega
      have lh : ir_hY h q < 34 := by
        unfold ir_hY ir_in
        split <;> omega
      rw [PY q lq, PY _ lh]
      show ir_w h (ir_P (ir_ou q)) = _
      rw [ir_wP h (by omega)]
      unfold ir_hY
      rw [ir_oi]
    · unfold ir_hY
      rw [H.2.2 _ (fun z => hq ((DY q).mp z)), ir_io]
  · obtain ⟨f, s, A, G⟩ := W
    refine ⟨f, s, fun i hi => ?_, G⟩
    rw [(hrw i hi).1, (hrw i hi).2]
    exact A i hi
end
section
/-! the relation, and the methods that run nothing -/
def i_Rel (k : Nat) (u : SX) (v : SY) : Prop := ∃ (c m : Nat) (h : Nat → Nat), u.1 = nI c ∧ v.1 = nI c ∧ v.2.1 = nI m ∧ v.2.2.2.2.2.2.1 = u.2.2.2.2.2.1 ∧ ir_R c m u.2.2.2.2.2.1 u.2.2.2.2.2.2.1 v.2.2.2.2.2.2.2.1 v.2.2.2.2.2.2.2.2.1 h
theorem i_up {k : Nat} {u : SX} {v : SY} (h : i_Rel k u v) : i_Rel (k + 3) u v := h
section
variable {fc fe fs fl fr : Int32} {ak aw xk xw ir re : Nat → Int32} {gc gw ge gm gl gs : Int32} {bk bf bs rk rf rs mt : Nat → Int32}
theorem ir_mk {k c m : Nat} {h : Nat → Nat} (R : ir_R c m ak aw bf bs h) : i_Rel k (nI c, fe, fs, fl, fr, ak, aw, xk, xw, ir, re) (nI c, nI m, ge, gm, gl, gs, ak, bf, bs, rk, rf, rs, mt) := ⟨c, m, h, rfl, rfl, rfl, rfl, R⟩
theorem ir_0 (hw : ∀ p, p < 34 → aw p = -1) : ir_R 0 0 ak aw bf bs (fun p => p) := by
  refine ⟨by omega, fun i hi => by omega, ⟨fun x => rfl, fun p hp => hp, fun p _ => rfl⟩, fun p hp => ?_, fun _ => 0, fun _ => 0, fun i hi => by omega, fun i hi => by omega, fun p hp => ?_, fun i j hi => by omega, fun i j hi => by omega⟩
  · rw [hw p hp]
    exact md_fo_s.symm
  · exact absurd (ir_io p) hp
theorem xl_ta {post : SX → Prop} (H : ∀ aw', (∀ p, p < 34 → aw' p = -1) → post (0, fe, fs, fl, fr, ak, aw', xk, xw, ir, re)) : wpX_takeAllAway post (fc, fe, fs, fl, fr, ak, aw, xk, xw, ir, re) := by
  have key : ∀ d i aw, i + d = 34 → (∀ p, p < i → aw p = -1) → wX_takeAllAway_7 post 0 fe fs fl fr (d + 1) (nI i) ak aw xk xw ir re := by
    intro d
    induction d with
    | zero =>
      intro i aw hi hq
      exact br_t (nI_le (a := 34) (by omega) (by omega)) (H aw (fun p hp => hq p (by omega)))
    | succ d ih =>
      intro i aw hi hq
      refine br_f (nI_ge (b := 34) (by omega) (by omega)) ?_
      rw [nI_clamp (show i < 2 ^ 31 by omega)]
      refine ⟨vp_in_nI (by omega) (by omega), nm_e (nm_r (nI_1 i) (ih (i + 1) _ (by omega) (fun p hp => ?_)))⟩
      by_cases z : p = i
      · rw [z, pk_us]
      · rw [pk_un z]; exact hq p (by omega)
  exact ⟨_, key 34 0 aw (by omega) (fun p hp => by omega)⟩
theorem xl_pkd {post : Int32 → Prop} {k : Int32} (H : post (nI (md_pk k))) : wpX_portsOfKind post k := by
  unfold wpX_portsOfKind wpX_isPair
  unfold md_pk at H
  by_cases c0 : k = 0
  · rw [if_pos c0] at H
    exact br_t c0 (br_f (by decide) H)
  · rw [if_neg c0] at H
    refine br_f c0 ?_
    by_cases c1 : k = 1
    · rw [if_pos c1] at H
      exact br_t c1 (br_f (by decide) H)
    · rw [if_neg c1] at H
      refine br_f c1 (br_t rfl ?_)
      by_cases c2 : k = 2
      · rw [if_pos c2] at H
        exact br_t c2 H
      · rw [if_neg c2] at H
        exact br_f c2 H
theorem xl_ie {post : Int32 → Prop} {p : Nat} (hp : p < 2 ^ 31) (H : post (if 30 ≤ p ∧ p ≤ 33 then 1 else 0)) : wpX_isEnd post (nI p) := by
  unfold wpX_isEnd
  by_cases c : p < 30
  · rw [if_neg (by omega)] at H
    exact br_t (nI_lt (b := 30) c (by omega)) H
  · refine br_f (nI_nlt (b := 30) (by omega) hp) ?_
    by_cases d : p < 34
    · rw [if_pos (by omega)] at H
      exact br_f (nI_ge (b := 34) d (by omega)) H
    · rw [if_neg (by omega)] at H
      exact br_t (nI_le (a := 34) (by omega) hp) H
def ir_V (c : Nat) (ak : Nat → Int32) (x : Int32) : Prop := ∃ p, x = nI p ∧ ir_D c ak p
theorem xl_ip {post : Int32 → Prop} {c : Nat} {x : Int32} (hc : c ≤ 10) (h1 : ∀ p, x = nI p → ir_D c ak p → post 1) (h0 : ¬ ir_V c ak x → post 0) : wpX_isPort post (nI c, fe, fs, fl, fr, ak, aw, xk, xw, ir, re) x := by
  unfold wpX_isPort
  dsimp only
  by_cases z : x < 0
  · have nv : ¬ ir_V c ak x := by
      rintro ⟨p, rfl, d⟩
      exact nI_pos (by have := ir_D34 hc d; omega) z
    unfold wpX_isEnd
    exact br_t (Int32.lt_trans z (by decide)) (br_t rfl (br_t z (h0 nv)))
  · obtain ⟨p, hp, rfl⟩ := nI_of z
    have nv : ¬ ir_D c ak p → ¬ ir_V c ak (nI p) := by
      rintro nd ⟨q, e, d⟩
      have l := ir_D34 hc d
      rw [(nI_eq hp (by omega)).mp e] at nd
      exact nd d
    refine xl_ie hp ?_
    by_cases e : 30 ≤ p ∧ p ≤ 33
    · rw [if_pos e]
      exact br_f (by decide) (h1 p rfl (Or.inl e))
    · rw [if_neg e, xl_3, xl_dv hp, show nI p - nI (p / 3) * 3 = nI (p % 3) from (xl_dv hp) ▸ xl_rm hp]
      refine br_t rfl (br_f (nI_pos hp) ?_)
      by_cases l : p < 3 * c
      · refine br_t (nI_lt l (by omega)) ⟨by decide, by decide, vp_in_nI (by omega) (by omega), ?_⟩
        rw [nI_clamp (show p / 3 < 2 ^ 31 by omega)]
        refine xl_pkd ?_
        have p3 := md_pk_3 (ak (p / 3))
        by_cases q : md_pk (ak (p / 3)) ≤ p % 3
        · refine br_t (nI_le q (by omega)) (h0 (nv ?_))
          unfold ir_D
          omega
        · exact br_f (nI_ge (by omega) (by omega)) (h1 p rfl (Or.inr ⟨by omega, by omega⟩))
      · refine br_f (nI_nlt (by omega) hp) (h0 (nv ?_))
        unfold ir_D
        omega
theorem yl_ip {post : Int32 → Prop} {c : Nat} {x : Int32} (hc : c ≤ 10) (hk : ∀ i, i < c → fz_k3 (bk i)) (h1 : ∀ p, x = nI p → ir_D c bk p → post 1) (h0 : ¬ ir_V c bk x → post 0) : wpY_isPort post (nI c, gw, ge, gm, gl, gs, bk, bf, bs, rk, rf, rs, mt) x := by
  unfold wpY_isPort
  dsimp only
  by_cases z : x < 0
  · have nv : ¬ ir_V c bk x := by
      rintro ⟨p, rfl, d⟩
      exact nI_pos (by have := ir_D34 hc d; omega) z
    exact br_t z (h0 nv)
  · obtain ⟨p, hp, rfl⟩ := nI_of z
    have nv : ¬ ir_D c bk p → ¬ ir_V c bk (nI p) := by
      rintro nd ⟨q, e, d⟩
      have l := ir_D34 hc d
      rw [(nI_eq hp (by omega)).mp e] at nd
      exact nd d
    refine br_f z ?_
    by_cases l : p ≤ 33
    · refine br_t (nI_le (b := 33) l (by omega)) ?_
      by_cases e : 29 < p
      · exact br_t (nI_lt (a := 29) e hp) (h1 p rfl (Or.inl (by omega)))
      · rw [xl_dv hp, show nI p - nI (p / 3) * 3 = nI (p % 3) from (xl_dv hp) ▸ xl_rm hp, nI_clamp (show p / 3 < 2 ^ 31 by omega)]
        refine br_f (nI_nlt (a := 29) (by omega) (by omega)) ⟨by decide, ?_⟩
        by_cases q : c ≤ p / 3
        · refine br_t (nI_le q (by omega)) (h0 (nv ?_))
          unfold ir_D
          omega
        · have k3 := hk (p / 3) (by omega)
          refine br_f (nI_ge (by omega) (by omega)) ⟨by decide, ?_⟩
          by_cases r : p % 3 = 0
          · rw [r]
            refine br_t nI_0 (h1 p rfl (Or.inr ⟨by omega, ?_⟩))
            rw [r]
            rcases k3 with y | y | y <;> rw [y] <;> decide
          · refine br_f (nI_ne0 (by omega) (by omega)) ⟨by decide, vp_in_nI (by omega) (by omega), ?_⟩
            by_cases y : bk (p / 3) = 2
            · refine br_t (by rw [y]; decide) (h0 (nv ?_))
              unfold ir_D
              rw [y]
              have : md_pk 2 = 1 := by decide
              omega
            · have ym : md_pk (bk (p / 3)) = 3 := by
                rcases k3 with w | w | w
                · rw [w]; decide
                · rw [w]; decide
                · exact absurd w y
              refine br_f ?_ (h1 p rfl (Or.inr ⟨by omega, by rw [ym]; omega⟩))
              rcases k3 with w | w | w
              · rw [w]; decide
              · rw [w]; decide
              · exact absurd w y
    · refine br_f (nI_ge (a := 33) (by omega) hp) (h0 (nv ?_))
      unfold ir_D
      omega
theorem yl_in {post : Int32 → Prop} {p : Nat} (hp : p < 34) (H : post (nI (ir_in p))) : wpY_inside post (gc, gw, ge, gm, gl, gs, bk, bf, bs, rk, rf, rs, mt) (nI p) := by
  unfold wpY_inside
  dsimp only
  unfold ir_in at H
  by_cases z : p < 30
  · rw [if_pos z] at H
    rw [show nI p + 4 = nI (p + 4) from nI_add p 4]
    exact br_t (nI_le (b := 29) (by omega) (by omega)) H
  · rw [if_neg z, if_pos hp] at H
    rw [show nI p - 30 = nI (p - 30) from pk_sub (b := 30) (by omega)]
    exact br_f (nI_ge (a := 29) (by omega) (by omega)) H
theorem yl_ou {post : Int32 → Prop} {q : Nat} (hq : q < 34) (H : post (nI (ir_ou q))) : wpY_outside post (gc, gw, ge, gm, gl, gs, bk, bf, bs, rk, rf, rs, mt) (nI q) := by
  unfold wpY_outside
  dsimp only
  unfold ir_ou at H
  by_cases z : q < 4
  · rw [if_pos z] at H
    rw [show nI q + 30 = nI (q + 30) from nI_add q 30]
    exact br_f (nI_ge (b := 4) z (by omega)) H
  · rw [if_neg z, if_pos hq] at H
    rw [show nI q - 4 = nI (q - 4) from pk_sub (b := 4) (by omega)]
    exact br_t (nI_le (a := 4) (by omega) (by omega)) H
theorem yl_wo0 {post : Int32 → Prop} {m q : Nat} {f s h : Nat → Nat} (hm : m ≤ 20) (hq : q < 2000) (A : yl_A m bf bs f s) (G : yl_G m f s h) (h0 : h q = q → post (-1)) (h1 : ∀ i, i < m → (f i = q ∨ (f i ≠ q ∧ s i = q)) → post (nI i)) :
    wpY_wireOf post (gc, nI m, ge, gm, gl, gs, bk, bf, bs, rk, rf, rs, mt) (nI q) := by
  have key : ∀ d i, i + d = m → (∀ j, j < i → f j ≠ q ∧ s j ≠ q) → wY_wireOf_2 post (nI q) gc (nI m) ge gm gl gs bk bf bs rk rf rs mt (d + 1) (nI i) := by
    intro d
    induction d with
    | zero =>
      intro i hi hj
      refine br_t (nI_le (by omega) (by omega)) (h0 ?_)
      by_cases z : h q = q
      · exact z
      · obtain ⟨j, hjm, e⟩ := G.2.1 q z
        have := hj j (by omega)
        exact absurd e (fun e => e.elim this.1 this.2)
    | succ d ih =>
      intro i hi hj
      have a := A i (by omega)
      have b := G.1 i (by omega)
      refine br_f (nI_ge (by omega) (by omega)) ⟨vp_in_nI (by omega) (by omega), ?_⟩
      rw [nI_clamp (show i < 2 ^ 31 by omega), a.1, a.2]
      by_cases c : f i = q
      · exact br_t (by rw [c]) (h1 i (by omega) (Or.inl c))
      · refine br_f (fun z => c ((nI_eq (by omega) (by omega)).mp z)) ⟨vp_in_nI (by omega) (by omega), ?_⟩
        by_cases d : s i = q
        · exact br_t (by rw [d]) (h1 i (by omega) (Or.inr ⟨c, d⟩))
        · refine br_f (fun z => d ((nI_eq (by omega) (by omega)).mp z)) (nm_r (nI_1 i) (ih (i + 1) (by omega) (fun j hj' => ?_)))
          by_cases e : j = i
          · rw [e]; exact ⟨c, d⟩
          · exact hj j (by omega)
  exact ⟨_, key m 0 (by omega) (fun j hj => by omega)⟩
end
theorem ir_ieq {p x : Nat} : ir_ou x = p ↔ x = ir_in p := by
  constructor
  · intro e; rw [← e, ir_io]
  · intro e; rw [e, ir_oi]
theorem ir_iin {p q : Nat} (h : ir_in p = ir_in q) : p = q := by rw [← ir_oi p, h, ir_oi]
theorem ir_hJ (h : Nat → Nat) (p q : Nat) : ir_hY (md_J h p q) = md_J (ir_hY h) (ir_in p) (ir_in q) := by
  funext x
  unfold ir_hY md_J
  simp only [ir_ieq]
  split
  · rfl
  · split <;> rfl
theorem ir_hC (h : Nat → Nat) (p q : Nat) : ir_hY (yl_C h p q) = yl_C (ir_hY h) (ir_in p) (ir_in q) := by
  funext x
  unfold ir_hY yl_C
  simp only [ir_ieq]
  split
  · rfl
  · split <;> rfl
theorem ir_HJ {c : Nat} {k : Nat → Int32} {h : Nat → Nat} (H : ir_H c k h) {p q : Nat} (dp : ir_D c k p) (dq : ir_D c k q) (hp : h p = p) (hq : h q = q) (hpq : p ≠ q) : ir_H c k (md_J h p q) := by
  refine ⟨fun x => ?_, fun x dx => ?_, fun x dx => ?_⟩
  · have hx := H.1 x
    unfold md_J
    grind
  · unfold md_J
    split
    · exact dq
    · split
      · exact dp
      · exact H.2.1 x dx
  · unfold md_J
    have n1 : ¬ x = p := fun z => dx (z ▸ dp)
    have n2 : ¬ x = q := fun z => dx (z ▸ dq)
    rw [if_neg n1, if_neg n2]
    exact H.2.2 x dx
theorem ir_HC {c : Nat} {k : Nat → Int32} {h : Nat → Nat} (H : ir_H c k h) {p : Nat} : ir_H c k (yl_C h p (h p)) := by
  refine ⟨fun x => ?_, fun x dx => ?_, fun x dx => ?_⟩
  · have hx := H.1 x
    have hp := H.1 p
    unfold yl_C
    grind
  · unfold yl_C
    split
    · rename_i e; rw [← e]; exact dx
    · split
      · rename_i e; rw [← e]; exact dx
      · exact H.2.1 x dx
  · unfold yl_C
    split
    · rename_i e; exact e.symm
    · split
      · rename_i e; exact e.symm
      · exact H.2.2 x dx
theorem i_vc0 : wpX_init (fun u => wpY_init (fun v => i_Rel 0 u v)) := by
  unfold wpX_init
  refine xl_ta (fun aw' hw => ?_)
  exact ⟨0, 0, fun p => p, rfl, rfl, rfl, rfl, ir_0 hw⟩
theorem i_vc_cell {k : Nat} {u : SX} {v : SY} (I : i_Rel k u v) (hk : k + 3 ≤ 1536) (v1 : Int32) : wpX_cell (fun r u' => wpY_cell (fun r' v' => r' = r ∧ i_Rel (k + 3) u' v') v v1) u v1 := by
  obtain ⟨fc, fe, fs, fl, fr, ak, aw, xk, xw, ir, re⟩ := u
  obtain ⟨gc, gw, ge, gm, gl, gs, bk, bf, bs, rk, rf, rs, mt⟩ := v
  obtain ⟨c, m, h, e1, e2, e3, e4, R⟩ := I
  dsimp only at e1 e2 e3 e4 R
  have e5 := e4.symm
  clear e4
  subst e1 e2 e3 e5
  have R' := R
  obtain ⟨c10, k3, H, W, Y⟩ := R'
  unfold wpX_cell wpY_cell wpX_isKind
  dsimp only
  by_cases z : v1 < 0
  · exact br_t z (br_t rfl (br_t z ⟨rfl, ir_mk R⟩))
  · obtain ⟨j, hj, rfl⟩ := nI_of z
    refine br_f z ?_
    by_cases l : j < 3
    · refine br_f (nI_ge (b := 3) l (by omega)) (br_f (by decide) ?_)
      by_cases f : c = 10
      · subst f
        exact br_f (nI_nlt (b := 10) (by omega) (by omega)) (br_f z (br_t (nI_le (b := 2) (by omega) (by omega)) (br_t rfl ⟨rfl, ir_mk R⟩)))
      · rw [nI_clamp (show c < 2 ^ 31 by omega)]
        refine br_t (nI_lt (b := 10) (by omega) (by omega)) ⟨vp_in_nI (by omega) (by omega), nm_e (nm_r (nI_1 c) ?_)⟩
        refine br_f z (br_t (nI_le (b := 2) (by omega) (by omega)) (br_f (fun e => f ((nI_eq (b := 10) (by omega) (by omega)).mp e)) ⟨vp_in_nI (by omega) (by omega), nm_e (nm_r (nI_1 c) ⟨nI_pred c, ir_mk (h := h) ?_⟩)⟩))
        have j3 : fz_k3 (nI j) := by
          have : j = 0 ∨ j = 1 ∨ j = 2 := by omega
          rcases this with e | e | e
          · left; rw [e]; rfl
          · right; left; rw [e]; rfl
          · right; right; rw [e]; rfl
        have sub : ∀ p, ir_D c ak p → ir_D (c + 1) (upd ak c (nI j)) p := by
          intro p d
          rcases d with d | ⟨d1, d2⟩
          · exact Or.inl d
          · refine Or.inr ⟨by omega, ?_⟩
            rw [pk_un (by omega)]
            exact d2
        refine ⟨by omega, fun i hi => ?_, ⟨H.1, fun p dp => ?_, fun p dp => H.2.2 p (fun d => dp (sub p d))⟩, W, Y⟩
        · by_cases e : i = c
          · rw [e, pk_us]; exact j3
          · rw [pk_un e]; exact k3 i (by omega)
        · by_cases d : ir_D c ak p
          · exact sub _ (H.2.1 p d)
          · rw [H.2.2 p d]; exact dp
    · exact br_t (nI_le (a := 3) (by omega) hj) (br_t rfl (br_f z (br_f (nI_ge (a := 2) (by omega) hj) ⟨rfl, ir_mk R⟩)))
theorem i_vc_cells {k : Nat} {u : SX} {v : SY} (I : i_Rel k u v) (hk : k + 3 ≤ 1536) : wpX_cells (fun r => wpY_cells (fun r' => r' = r ∧ i_Rel (k + 3) u v) v) u := by
  obtain ⟨fc, fe, fs, fl, fr, ak, aw, xk, xw, ir, re⟩ := u
  obtain ⟨gc, gw, ge, gm, gl, gs, bk, bf, bs, rk, rf, rs, mt⟩ := v
  obtain ⟨c, m, h, e1, e2, e3, e4, R⟩ := I
  dsimp only at e1 e2 e3 e4 R
  have e5 := e4.symm
  clear e4
  subst e1 e2 e3 e5
  exact ⟨rfl, ir_mk R⟩
theorem i_vc_clear {k : Nat} {u : SX} {v : SY} (I : i_Rel k u v) (hk : k + 3 ≤ 1536) : wpX_clear (fun u' => wpY_clear (fun v' => i_Rel (k + 3) u' v') v) u := by
  obtain ⟨fc, fe, fs, fl, fr, ak, aw, xk, xw, ir, re⟩ := u
  obtain ⟨gc, gw, ge, gm, gl, gs, bk, bf, bs, rk, rf, rs, mt⟩ := v
  obtain ⟨c, m, h, e1, e2, e3, e4, R⟩ := I
  dsimp only at e1 e2 e3 e4 R
  have e5 := e4.symm
  clear e4
  subst e1 e2 e3 e5
  unfold wpX_clear wpY_clear
  dsimp only
  refine xl_ta (fun aw' hw => ?_)
  exact ⟨0, 0, fun p => p, rfl, rfl, rfl, rfl, ir_0 hw⟩
theorem i_vc_join {k : Nat} {u : SX} {v : SY} (I : i_Rel k u v) (hk : k + 3 ≤ 1536) (v1 : Int32) (v2 : Int32) : wpX_join (fun r u' => wpY_join (fun r' v' => r' = r ∧ i_Rel (k + 3) u' v') v v1 v2) u v1 v2 := by
  obtain ⟨fc, fe, fs, fl, fr, ak, aw, xk, xw, ir, re⟩ := u
  obtain ⟨gc, gw, ge, gm, gl, gs, bk, bf, bs, rk, rf, rs, mt⟩ := v
  obtain ⟨c, m, h, e1, e2, e3, e4, R⟩ := I
  dsimp only at e1 e2 e3 e4 R
  have e5 := e4.symm
  clear e4
  subst e1 e2 e3 e5
  have R' := R
  obtain ⟨c10, k3, H, W, Y⟩ := R'
  have m17 := ir_m R
  unfold wpX_join wpY_join
  dsimp only
  refine xl_ip c10 (fun p ep dp => ?_) (fun nv => ?_)
  · subst ep
    have p34 := ir_D34 c10 dp
    refine br_f (by decide) ?_
    refine xl_ip c10 (fun q eq dq => ?_) (fun nv => ?_)
    · subst eq
      have q34 := ir_D34 c10 dq
      refine br_f (by decide) ?_
      -- the reference's two tests
      have Yok : ∀ (P : Int32 → Prop), P 1 → wpY_isPort P (nI c, nI m, ge, gm, gl, gs, ak, bf, bs, rk, rf, rs, mt) (nI p) := fun P h1 => yl_ip c10 k3 (fun _ _ _ => h1) (fun nv => absurd ⟨p, rfl, dp⟩ nv)
      have Yok2 : ∀ (P : Int32 → Prop), P 1 → wpY_isPort P (nI c, nI m, ge, gm, gl, gs, ak, bf, bs, rk, rf, rs, mt) (nI q) := fun P h1 => yl_ip c10 k3 (fun _ _ _ => h1) (fun nv => absurd ⟨q, rfl, dq⟩ nv)
      by_cases pq : p = q
      · subst pq
        exact br_t rfl (Yok _ (br_f (by decide) (Yok2 _ (br_f (by decide) (br_t rfl ⟨rfl, ir_mk R⟩)))))
      · have npq : ¬ nI p = nI q := fun e => pq ((nI_eq (by omega) (by omega)).mp e)
        rw [nI_clamp (show p < 2 ^ 31 by omega), nI_clamp (show q < 2 ^ 31 by omega), W p p34, W q q34]
        refine br_f npq ⟨vp_in_nI p34 (by omega), ?_⟩
        have ip34 : ir_in p < 34 := by unfold ir_in; split <;> omega
        have iq34 : ir_in q < 34 := by unfold ir_in; split <;> omega
        obtain ⟨f, s, A, G⟩ := Y
        have ep : ir_hY h (ir_in p) = ir_in (h p) := by unfold ir_hY; rw [ir_oi]
        have eq : ir_hY h (ir_in q) = ir_in (h q) := by unfold ir_hY; rw [ir_oi]
        -- the reference, up to its wires
        have pre : ∀ (Q : Int32 → SY → Prop), wpY_wireOf (fun r_60 => (((0 ≤ r_60 → (Q (-4) (nI c, nI m, ge, gm, gl, gs, ak, bf, bs, rk, rf, rs, mt))) ∧ (¬ 0 ≤ r_60 → (wpY_wireOf (fun r_75 => (((r_75 < 0 → (vp_in (nI m) 20 ∧ ∀ a_firsts_91 : Nat → Int32, a_firsts_91 = upd bf (nI m).toNatClampNeg (nI (ir_in p)) → (vp_in (nI m) 20 ∧ ∀ a_seconds_93 : Nat → Int32, a_seconds_93 = upd bs (nI m).toNatClampNeg (nI (ir_in q)) → (∀ f_wires_94 : Int32, f_wires_94 = nI m + 1 → (Q 0 (nI c, f_wires_94, ge, gm, gl, gs, ak, a_firsts_91, a_seconds_93, rk, rf, rs, mt)))))) ∧ (¬ r_75 < 0 → (Q (-4) (nI c, nI m, ge, gm, gl, gs, ak, bf, bs, rk, rf, rs, mt)))))) (nI c, nI m, ge, gm, gl, gs, ak, bf, bs, rk, rf, rs, mt) (nI (ir_in q))))))) (nI c, nI m, ge, gm, gl, gs, ak, bf, bs, rk, rf, rs, mt) (nI (ir_in p)) → wpY_join Q (nI c, nI m, ge, gm, gl, gs, ak, bf, bs, rk, rf, rs, mt) (nI p) (nI q) := by
          intro Q hQ
          unfold wpY_join
          dsimp only
          refine Yok _ (br_f (by decide) (Yok2 _ (br_f (by decide) (br_f npq ?_))))
          refine yl_in p34 ?_
          refine yl_in q34 ?_
          exact hQ
        have pre' := pre (fun r' v' => r' = 0 ∧ i_Rel (k + 3) (nI c, fe, fs, fl, fr, ak, upd (upd aw p (nI q)) q (nI p), xk, xw, ir, re) v')
        have preN := pre (fun r' v' => r' = -4 ∧ i_Rel (k + 3) (nI c, fe, fs, fl, fr, ak, aw, xk, xw, ir, re) v')
        by_cases op : h p = p
        · rw [op, md_fo_s]
          refine br_t rfl ⟨vp_in_nI q34 (by omega), ?_⟩
          by_cases oq : h q = q
          · rw [oq, md_fo_s]
            refine br_t rfl ⟨vp_in_nI p34 (by omega), nm_e ⟨vp_in_nI q34 (by omega), nm_e ?_⟩⟩
            refine pre' ?_
            refine yl_wo0 (by omega) (by omega) A G (fun _ => ?_) (fun i hi z => ?_)
            · refine br_f (by decide) ?_
              refine yl_wo0 (by omega) (by omega) A G (fun _ => ?_) (fun i hi z => ?_)
              · rw [nI_clamp (show m < 2 ^ 31 by omega)]
                refine br_t (by decide) ⟨vp_in_nI (by omega) (by omega), nm_e ⟨vp_in_nI (by omega) (by omega), nm_e (nm_r (nI_1 m) ⟨rfl, ir_mk (h := md_J h p q) ⟨c10, k3, ir_HJ H dp dq op oq pq, fun x hx => ?_, ?_⟩⟩)⟩⟩
                · have w := W x hx
                  unfold upd md_J
                  unfold md_fo at w ⊢
                  grind
                · rw [ir_hJ]
                  exact ⟨_, _, yl_Aa A, yl_Ga G (by rw [ep, op]) (by rw [eq, oq]) (fun z => pq (ir_iin z)) (by omega) (by omega)⟩
              · exfalso
                have g := G.1 i hi
                rcases z with z | ⟨_, z⟩
                · rw [z, eq, oq] at g; exact g.2.2.1 g.2.2.2.1
                · rw [z, eq, oq] at g; exact g.2.2.1 g.2.2.2.2.symm
            · exfalso
              have g := G.1 i hi
              rcases z with z | ⟨_, z⟩
              · rw [z, ep, op] at g; exact g.2.2.1 g.2.2.2.1
              · rw [z, ep, op] at g; exact g.2.2.1 g.2.2.2.2.symm
          · have hq34 := ir_D34 c10 (H.2.1 q dq)
            rw [md_fo_n oq]
            refine br_f (xl_nm1 (by omega)) ?_
            refine preN ?_
            refine yl_wo0 (by omega) (by omega) A G (fun _ => ?_) (fun i hi z => ?_)
            · refine br_f (by decide) ?_
              refine yl_wo0 (by omega) (by omega) A G (fun z => ?_) (fun i hi z => ?_)
              · rw [eq] at z
                exact absurd (ir_iin z) oq
              · exact br_f (nI_pos (by omega)) ⟨rfl, ir_mk R⟩
            · exact br_t (nI_pos' (by omega)) ⟨rfl, ir_mk R⟩
        · have hp34 := ir_D34 c10 (H.2.1 p dp)
          rw [md_fo_n op]
          refine br_f (xl_nm1 (by omega)) ?_
          refine preN ?_
          refine yl_wo0 (by omega) (by omega) A G (fun z => ?_) (fun i hi z => ?_)
          · rw [ep] at z
            exact absurd (ir_iin z) op
          · exact br_t (nI_pos' (by omega)) ⟨rfl, ir_mk R⟩
    · refine br_t rfl ?_
      refine yl_ip c10 k3 (fun _ _ _ => br_f (by decide) ?_) (fun nv' => absurd ⟨p, rfl, dp⟩ nv')
      exact yl_ip c10 k3 (fun q eq dq => absurd ⟨q, eq, dq⟩ nv) (fun _ => br_t rfl ⟨rfl, ir_mk R⟩)
  · refine br_t rfl ?_
    exact yl_ip c10 k3 (fun q eq dq => absurd ⟨q, eq, dq⟩ nv) (fun _ => br_t rfl ⟨rfl, ir_mk R⟩)
theorem i_vc_cut {k : Nat} {u : SX} {v : SY} (I : i_Rel k u v) (hk : k + 3 ≤ 1536) (v1 : Int32) : wpX_cut (fun r u' => wpY_cut (fun r' v' => r' = r ∧ i_Rel (k + 3) u' v') v v1) u v1 := by
  obtain ⟨fc, fe, fs, fl, fr, ak, aw, xk, xw, ir, re⟩ := u
  obtain ⟨gc, gw, ge, gm, gl, gs, bk, bf, bs, rk, rf, rs, mt⟩ := v
  obtain ⟨c, m, h, e1, e2, e3, e4, R⟩ := I
  dsimp only at e1 e2 e3 e4 R
  have e5 := e4.symm
  clear e4
  subst e1 e2 e3 e5
  have R' := R
  obtain ⟨c10, k3, H, W, Y⟩ := R'
  have m17 := ir_m R
  unfold wpX_cut wpY_cut
  dsimp only
  refine xl_ip c10 (fun p ep dp => ?_) (fun nv => ?_)
  · subst ep
    have p34 := ir_D34 c10 dp
    have ip34 : ir_in p < 34 := by unfold ir_in; split <;> omega
    have d2 := H.2.1 p dp
    have hp34 := ir_D34 c10 d2
    have ihp34 : ir_in (h p) < 34 := by unfold ir_in; split <;> omega
    obtain ⟨f, s, A, G⟩ := Y
    have ep : ir_hY h (ir_in p) = ir_in (h p) := by unfold ir_hY; rw [ir_oi]
    rw [nI_clamp (show p < 2 ^ 31 by omega), W p p34]
    refine br_f (by decide) ⟨vp_in_nI p34 (by omega), nm_e ?_⟩
    have Yok : ∀ (P : Int32 → Prop), P 1 → wpY_isPort P (nI c, nI m, ge, gm, gl, gs, ak, bf, bs, rk, rf, rs, mt) (nI p) := fun P h1 => yl_ip c10 k3 (fun _ _ _ => h1) (fun nv => absurd ⟨p, rfl, dp⟩ nv)
    by_cases op : h p = p
    · rw [op, md_fo_s]
      refine br_t rfl (Yok _ (br_f (by decide) ?_))
      refine yl_in p34 ?_
      refine yl_wo0 (by omega) (by omega) A G (fun _ => ?_) (fun i hi z => ?_)
      · exact br_f (by decide) ⟨rfl, ir_mk R⟩
      · exfalso
        have g := G.1 i hi
        rcases z with z | ⟨_, z⟩
        · rw [z, ep, op] at g; exact g.2.2.1 g.2.2.2.1
        · rw [z, ep, op] at g; exact g.2.2.1 g.2.2.2.2.symm
    · rw [md_fo_n op, nI_clamp (show h p < 2 ^ 31 by omega)]
      refine br_f (xl_nm1 (by omega)) ⟨vp_in_nI p34 (by omega), nm_e ⟨vp_in_nI hp34 (by omega), nm_e (Yok _ (br_f (by decide) ?_))⟩⟩
      refine yl_in p34 ?_
      have awn : ∀ x, x < 34 → upd (upd aw p (-1)) (h p) (-1) x = md_fo x (yl_C h p (h p) x) := by
        intro x hx
        have w := W x hx
        unfold upd yl_C
        unfold md_fo at w ⊢
        grind
      have nii : ir_in p ≠ ir_in (h p) := fun z => op (ir_iin z).symm
      have e1 : nI m - 1 = nI (m - 1) ∨ m = 0 := by
        by_cases m0 : m = 0
        · right; exact m0
        · left
          have := nI_pred (m - 1)
          rw [show m - 1 + 1 = m by omega] at this
          exact this
      refine yl_wo0 (by omega) (by omega) A G (fun z => ?_) (fun i hi z => ?_)
      · rw [ep] at z
        exact absurd (ir_iin z) op
      · have a := A i hi
        have g := G.1 i hi
        have e1 : nI m - 1 = nI (m - 1) := e1.elim id (fun z => by omega)
        have Wt : yl_W (m - 1) (upd bf i (bf (m - 1))) (upd bs i (bs (m - 1))) (yl_C (ir_hY h) (f i) (s i)) := ⟨_, _, yl_At A hi, yl_Gt G hi⟩
        refine br_t (nI_pos' (by omega)) ⟨vp_in_nI (by omega) (by omega), ?_⟩
        rw [nI_clamp (show i < 2 ^ 31 by omega), a.1, a.2]
        rcases z with z | ⟨z1, z2⟩
        · have es : s i = ir_in (h p) := by rw [← ep, ← z]; exact g.2.2.2.1.symm
          rw [z, es, ← ir_hC] at Wt
          refine br_t (by rw [z]) ⟨vp_in_nI (by omega) (by omega), ?_⟩
          unfold wY_cut_54
          rw [e1]
          refine nm_e ?_
          rw [nI_clamp (show i < 2 ^ 31 by omega), nI_clamp (show m - 1 < 2 ^ 31 by omega)]
          refine ⟨vp_in_nI (by omega) (by omega), vp_in_nI (by omega) (by omega), nm_e ⟨vp_in_nI (by omega) (by omega), vp_in_nI (by omega) (by omega), nm_e ?_⟩⟩
          rw [es]
          refine yl_ou ihp34 ?_
          rw [ir_oi]
          exact ⟨rfl, ir_mk ⟨c10, k3, ir_HC H, awn, Wt⟩⟩
        · have ef : f i = ir_in (h p) := by rw [← ep, ← z2]; exact g.2.2.2.2.symm
          rw [z2, ef, yl_Ce nii, ← ir_hC] at Wt
          refine br_f (fun e => z1 ((nI_eq (by omega) (by omega)).mp e)) ⟨vp_in_nI (by omega) (by omega), ?_⟩
          unfold wY_cut_54
          rw [e1]
          refine nm_e ?_
          rw [nI_clamp (show i < 2 ^ 31 by omega), nI_clamp (show m - 1 < 2 ^ 31 by omega)]
          refine ⟨vp_in_nI (by omega) (by omega), vp_in_nI (by omega) (by omega), nm_e ⟨vp_in_nI (by omega) (by omega), vp_in_nI (by omega) (by omega), nm_e ?_⟩⟩
          rw [ef]
          refine yl_ou ihp34 ?_
          rw [ir_oi]
          exact ⟨rfl, ir_mk ⟨c10, k3, ir_HC H, awn, Wt⟩⟩
  · refine br_t rfl ?_
    exact yl_ip c10 k3 (fun q eq dq => absurd ⟨q, eq, dq⟩ nv) (fun _ => br_t rfl ⟨rfl, ir_mk R⟩)
end
section
/-! facing; both runs from related objects; steps, loops, left -/
section
variable {fc fe fs fl fr : Int32} {ak aw xk xw ir re : Nat → Int32} {gc gw ge gm gl gs : Int32} {bk bf bs rk rf rs mt : Nat → Int32}
theorem cn_t {p : Nat → Bool} {i : Nat} (h : p i = true) : cn_c p (i + 1) = cn_c p i + 1 := by
  show cn_c p i + _ = _
  rw [if_pos h]
theorem cn_f {p : Nat → Bool} {i : Nat} (h : p i = false) : cn_c p (i + 1) = cn_c p i := by
  show cn_c p i + _ = _
  rw [if_neg (by rw [h]; decide)]; rfl
theorem cn_le (p : Nat → Bool) : ∀ n, cn_c p n ≤ n
  | 0 => Nat.le_refl 0
  | n + 1 => by
    show cn_c p n + _ ≤ _
    have := cn_le p n
    split <;> omega
def fa_X (h : Nat → Nat) (i : Nat) : Bool := decide (3 * i < h (3 * i) ∧ h (3 * i) < 30 ∧ h (3 * i) % 3 = 0)
def fa_Y (f s : Nat → Nat) (i : Nat) : Bool := decide (4 ≤ f i ∧ (f i - 4) % 3 = 0 ∧ 4 ≤ s i ∧ (s i - 4) % 3 = 0)
theorem fa_x {post : Int32 → Prop} {c : Nat} {h : Nat → Nat} (hc : c ≤ 10) (hb : ∀ p, p < 36 → h p < 36) (W : ∀ p, p < 34 → aw p = md_fo p (h p)) (H : post (nI (cn_c (fa_X h) c))) : wpX_facing post (nI c, fe, fs, fl, fr, ak, aw, xk, xw, ir, re) := by
  have key : ∀ d i, i + d = c → wX_facing_4 post (nI c) fe fs fl fr ak aw xk xw ir re (d + 1) (nI (cn_c (fa_X h) i)) (nI i) := by
    intro d
    induction d with
    | zero =>
      intro i hi
      have : i = c := by omega
      subst this
      exact br_t (nI_le (by omega) (by omega)) H
    | succ d ih =>
      intro i hi
      have nx := ih (i + 1) (by omega)
      have hh := hb (3 * i) (by omega)
      refine br_f (nI_ge (by omega) (by omega)) ?_
      rw [xl_3, nI_clamp (show 3 * i < 2 ^ 31 by omega), W _ (by omega)]
      refine ⟨vp_in_nI (by omega) (by omega), nm_e ?_⟩
      by_cases op : h (3 * i) = 3 * i
      · have f : fa_X h i = false := decide_eq_false (by omega)
        rw [cn_f f] at nx
        rw [op, md_fo_s]
        exact br_t (Int32.le_trans (by decide) (nI_pos' (by omega))) (nm_r (nI_1 i) nx)
      · rw [md_fo_n op]
        by_cases c1 : h (3 * i) ≤ 3 * i
        · have f : fa_X h i = false := decide_eq_false (by omega)
          rw [cn_f f] at nx
          exact br_t (nI_le c1 (by omega)) (nm_r (nI_1 i) nx)
        · refine br_f (nI_ge (by omega) (by omega)) ?_
          by_cases c2 : 30 ≤ h (3 * i)
          · have f : fa_X h i = false := decide_eq_false (by omega)
            rw [cn_f f] at nx
            exact br_t (nI_le (a := 30) c2 (by omega)) (nm_r (nI_1 i) nx)
          · rw [xl_rm (by omega)]
            refine br_f (nI_ge (b := 30) (by omega) (by omega)) ⟨by decide, ?_⟩
            by_cases c3 : h (3 * i) % 3 = 0
            · have f : fa_X h i = true := decide_eq_true (by omega)
              rw [cn_t f] at nx
              rw [c3]
              exact br_t nI_0 (nm_r (nI_1 _) (nm_r (nI_1 i) nx))
            · have f : fa_X h i = false := decide_eq_false (by omega)
              rw [cn_f f] at nx
              exact br_f (nI_ne0 (by omega) (by omega)) (nm_r (nI_1 i) nx)
  exact ⟨_, key c 0 (by omega)⟩
theorem fa_y {post : Int32 → Prop} {m : Nat} {f s h : Nat → Nat} (hm : m ≤ 20) (A : yl_A m bf bs f s) (G : yl_G m f s h) (H : post (nI (cn_c (fa_Y f s) m))) : wpY_facing post (gc, nI m, ge, gm, gl, gs, bk, bf, bs, rk, rf, rs, mt) := by
  have key : ∀ d i, i + d = m → wY_facing_4 post gc (nI m) ge gm gl gs bk bf bs rk rf rs mt (d + 1) (nI (cn_c (fa_Y f s) i)) (nI i) := by
    intro d
    induction d with
    | zero =>
      intro i hi
      have : i = m := by omega
      subst this
      exact br_t (nI_le (by omega) (by omega)) H
    | succ d ih =>
      intro i hi
      have nx := ih (i + 1) (by omega)
      have a := A i (by omega)
      have b := G.1 i (by omega)
      refine br_f (nI_ge (by omega) (by omega)) ⟨vp_in_nI (by omega) (by omega), ?_⟩
      rw [nI_clamp (show i < 2 ^ 31 by omega), a.1, a.2]
      refine yl_hd b.1 (fun z => ?_) (fun z1 z2 => ?_)
      · have f : fa_Y f s i = false := decide_eq_false (by omega)
        rw [cn_f f] at nx
        exact br_t rfl (nm_r (nI_1 i) nx)
      · refine br_f (by decide) ⟨vp_in_nI (by omega) (by omega), ?_⟩
        refine yl_hd b.2.1 (fun z => ?_) (fun z3 z4 => ?_)
        · have f : fa_Y f s i = false := decide_eq_false (by omega)
          rw [cn_f f] at nx
          exact br_t rfl (nm_r (nI_1 i) nx)
        · have f : fa_Y f s i = true := decide_eq_true (by omega)
          rw [cn_t f] at nx
          exact br_f (by decide) (nm_r (nI_1 _) (nm_r (nI_1 i) nx))
  exact ⟨_, key m 0 (by omega)⟩
theorem fa_eq {c m : Nat} {h f s : Nat → Nat} {k : Nat → Int32} (hc : c ≤ 10) (H : ir_H c k h) (G : yl_G m f s (ir_hY h)) : cn_c (fa_Y f s) m = cn_c (fa_X h) c := by
  have ih : ∀ p, ir_hY h (ir_in p) = ir_in (h p) := by intro p; unfold ir_hY; rw [ir_oi]
  have i3 : ∀ a, a < 10 → ir_in (3 * a) = 3 * a + 4 := by intro a ha; unfold ir_in; rw [if_pos (by omega)]
  refine Nat.le_antisymm ?_ ?_
  · refine cn_rel (R := fun i a => f i = 3 * a + 4 ∨ s i = 3 * a + 4) m _ (fun i hi pi => ?_) (fun i i' a hi hi' _ _ r1 r2 => ?_)
    · have p := of_decide_eq_true pi
      have g := G.1 i hi
      -- the cells of the two heads
      have lt : ∀ x y, ir_hY h x = y → x ≠ y → 4 ≤ x → (x - 4) % 3 = 0 → (x - 4) / 3 < c ∧ x < 34 := by
        intro x y e ne x4 x3
        have d : ir_D c k (ir_ou x) := by
          by_cases d : ir_D c k (ir_ou x)
          · exact d
          · exfalso
            apply ne
            rw [← e]
            unfold ir_hY
            rw [H.2.2 _ d, ir_io]
        have l := ir_D34 hc d
        have x34 : x < 34 := by
          have e := ir_io x
          unfold ir_in at e
          split at e <;> omega
        unfold ir_D ir_ou at d
        rw [if_neg (by omega), if_pos x34] at d
        omega
      have l1 := lt (f i) (s i) g.2.2.2.1 g.2.2.1 p.1 p.2.1
      have l2 := lt (s i) (f i) g.2.2.2.2 (fun z => g.2.2.1 z.symm) p.2.2.1 p.2.2.2
      have o1 : ir_ou (f i) = f i - 4 := by unfold ir_ou; rw [if_neg (by omega), if_pos l1.2]
      have o2 : ir_ou (s i) = s i - 4 := by unfold ir_ou; rw [if_neg (by omega), if_pos l2.2]
      have e1 : h (f i - 4) = s i - 4 := by
        have := g.2.2.2.1
        unfold ir_hY at this
        rw [← o1, ← o2, ← this, ir_oi]
      have e2 : h (s i - 4) = f i - 4 := by
        have := g.2.2.2.2
        unfold ir_hY at this
        rw [← o1, ← o2, ← this, ir_oi]
      have q1 : 3 * ((f i - 4) / 3) = f i - 4 := by omega
      have q2 : 3 * ((s i - 4) / 3) = s i - 4 := by omega
      by_cases z : f i < s i
      · refine ⟨(f i - 4) / 3, l1.1, decide_eq_true ?_, Or.inl (by omega)⟩
        rw [q1, e1]
        omega
      · refine ⟨(s i - 4) / 3, l2.1, decide_eq_true ?_, Or.inr (by omega)⟩
        rw [q2, e2]
        have := g.2.2.1
        omega
    · rcases r1 with r1 | r1 <;> rcases r2 with r2 | r2
      · exact G.2.2.1 i i' hi hi' (r1.trans r2.symm)
      · exact absurd (r1.trans r2.symm) (G.2.2.2 i i' hi hi')
      · exact absurd (r2.trans r1.symm) (G.2.2.2 i' i hi' hi)
      · exact yl_ss G hi hi' (r1.trans r2.symm)
  · refine cn_rel (R := fun a i => i < m ∧ (f i = 3 * a + 4 ∨ s i = 3 * a + 4)) c _ (fun a ha pa => ?_) (fun a a' i ha ha' pa pa' r1 r2 => ?_)
    · have p := of_decide_eq_true pa
      have e := ih (3 * a)
      rw [i3 a (by omega)] at e
      have e2 : ir_in (h (3 * a)) = h (3 * a) + 4 := by unfold ir_in; rw [if_pos (by omega)]
      obtain ⟨i, hi, ei⟩ := G.2.1 (3 * a + 4) (by omega)
      have g := G.1 i hi
      refine ⟨i, hi, decide_eq_true ?_, hi, ei⟩
      rcases ei with ei | ei
      · have es : s i = h (3 * a) + 4 := by rw [← g.2.2.2.1, ei, e, e2]
        omega
      · have es : f i = h (3 * a) + 4 := by rw [← g.2.2.2.2, ei, e, e2]
        omega
    · have p := of_decide_eq_true pa
      have p' := of_decide_eq_true pa'
      obtain ⟨hi, r1⟩ := r1
      obtain ⟨_, r2⟩ := r2
      have g := G.1 i hi
      have e := ih (3 * a)
      have e' := ih (3 * a')
      rw [i3 a (by omega)] at e
      rw [i3 a' (by omega)] at e'
      have e2 : ir_in (h (3 * a)) = h (3 * a) + 4 := by unfold ir_in; rw [if_pos (by omega)]
      have e2' : ir_in (h (3 * a')) = h (3 * a') + 4 := by unfold ir_in; rw [if_pos (by omega)]
      rcases r1 with r1 | r1 <;> rcases r2 with r2 | r2
      · omega
      · exfalso
        have g1 := g.2.2.2.1
        have g2 := g.2.2.2.2
        rw [r1, e, e2, r2] at g1
        rw [r2, e', e2', r1] at g2
        omega
      · exfalso
        have g1 := g.2.2.2.1
        have g2 := g.2.2.2.2
        rw [r2, e', e2', r1] at g1
        rw [r1, e, e2, r2] at g2
        omega
      · omega
end
theorem i_vc_facing {k : Nat} {u : SX} {v : SY} (I : i_Rel k u v) (hk : k + 3 ≤ 1536) : wpX_facing (fun r => wpY_facing (fun r' => r' = r ∧ i_Rel (k + 3) u v) v) u := by
  obtain ⟨fc, fe, fs, fl, fr, ak, aw, xk, xw, ir, re⟩ := u
  obtain ⟨gc, gw, ge, gm, gl, gs, bk, bf, bs, rk, rf, rs, mt⟩ := v
  obtain ⟨c, m, h, e1, e2, e3, e4, R⟩ := I
  dsimp only at e1 e2 e3 e4 R
  have e5 := e4.symm
  clear e4
  subst e1 e2 e3 e5
  have R' := R
  obtain ⟨c10, k3, H, W, Y⟩ := R'
  have m17 := ir_m R
  obtain ⟨f, s, A, G⟩ := Y
  refine fa_x c10 (fun p hp => ir_h36 c10 H hp) W ?_
  refine fa_y (by omega) A G ⟨?_, ir_mk R⟩
  rw [fa_eq c10 H G]
end
section
/-! both runs from related objects; steps, loops, left -/
section
variable {fc fe fs fl fr : Int32} {ak aw xk xw ir re : Nat → Int32} {gc gw ge gm gl gs : Int32} {bk bf bs rk rf rs mt : Nat → Int32}
theorem rn_b {QX : Int32 → SX → Prop} {c m : Nat} {h : Nat → Nat} (R : ir_R c m ak aw bf bs h)
    (hT : ∀ e l n xk' xw', (∀ QY : Int32 → SY → Prop, (∀ e' l' m' n rk' rf' rs', QY 0 (nI c, nI m, nI e', nI m', nI l', nI n, ak, bf, bs, rk', rf', rs', mt)) → wpY_run QY (nI c, nI m, ge, gm, gl, gs, ak, bf, bs, rk, rf, rs, mt)) → QX 0 (nI c, nI e, nI n, nI l, fr, ak, aw, xk', xw', ir, re))
    (hR : ∀ n N e l xk' xw' hx gx, n ≤ 120 → fz_no N → xl_R n N e l xk' xw' hx gx → (∀ QY : Int32 → SY → Prop, (∀ e' l' m' rk' rf' rs' hy gy, yl_R n N e' l' m' rk' rf' rs' hy gy → QY 1 (nI c, nI m, nI e', nI m', nI l', nI n, ak, bf, bs, rk', rf', rs', mt)) → wpY_run QY (nI c, nI m, ge, gm, gl, gs, ak, bf, bs, rk, rf, rs, mt)) → QX 1 (nI c, nI e, nI n, nI l, fr, ak, aw, xk', xw', ir, re)) :
    wpX_runComesToRest QX (nI c, fe, fs, fl, fr, ak, aw, xk, xw, ir, re) := by
  have m17 := ir_m R
  obtain ⟨c10, k3, H, W, Y⟩ := R
  have ok := ir_ok c10 k3 H
  refine xl_run c10 rfl (fun rk' rw' h1 h2 => ir_X c10 k3 H W h1 h2) (fun k N e l xk' xw' hx gx hk pa RX => ⟨fun no => ?_, fun k1 nno => ?_⟩)
  · refine hR k N e l xk' xw' hx gx hk no RX (fun QY hY => ?_)
    refine yl_run c10 rfl (by omega) rfl (fun rk' rf' rs' h1 h2 => ir_Y c10 (by omega) k3 H Y h1 h2) (fun k' N' e' l' m' rk' rf' rs' hy gy hk' pa' RY => ⟨fun no' => ?_, fun k1 nno => ?_⟩)
    · have fin := (fz_fin ok pa pa' hk hk' (Or.inr no) (Or.inr no')).2 no
      obtain ⟨f1, f2⟩ := fin
      subst f1 f2
      exact hY e' l' m' rk' rf' rs' hy gy RY
    · exact absurd ((fz_fin ok pa pa' hk hk' (Or.inr no) (Or.inl k1)).1.mp no) nno
  · refine hT e l k xk' xw' (fun QY hY => ?_)
    refine yl_run c10 rfl (by omega) rfl (fun rk' rf' rs' h1 h2 => ir_Y c10 (by omega) k3 H Y h1 h2) (fun k' N' e' l' m' rk' rf' rs' hy gy hk' pa' RY => ⟨fun no' => ?_, fun k1' nno' => ?_⟩)
    · exact absurd ((fz_fin ok pa pa' hk hk' (Or.inl k1) (Or.inr no')).1.mpr no') nno
    · exact hY e' l' m' k' rk' rf' rs'
end
/-- two states that one net is: a live cell of the one is a live cell of the other -/
theorem rn_iso {o : Nat} {E : Nat → Prop} {U : Nat → Nat} {e : Nat} {rk : Nat → Int32} {h g : Nat → Nat} {N : fz_N} {o' : Nat} {E' : Nat → Prop} {U' : Nat → Nat} {e' : Nat} {rk' : Nat → Int32} {h' g' : Nat → Nat}
    (R : md_R o E U e rk h g N) (R' : md_R o' E' U' e' rk' h' g' N) {i : Nat} (hi : i < e) (li : rk i ≠ -1) : ∃ j, j < e' ∧ rk' j = rk i ∧ g' j = g i := by
  have k := R.2.2.1 i hi li
  have l : N.1 (g i) ≠ -1 := by rw [k]; exact li
  obtain ⟨j, h1, h2, h3⟩ := R'.2.2.2.1 (g i) l
  refine ⟨j, h1, ?_, h3⟩
  rw [← R'.2.2.1 j h1 h2, h3, k]
theorem rn_op {o : Nat} {E : Nat → Prop} {U : Nat → Nat} {e : Nat} {rk : Nat → Int32} {h g : Nat → Nat} {N : fz_N} (R : md_R o E U e rk h g N) {i s : Nat} (hs : s < md_v e rk i) (h3 : s < 3) :
    h (md_p o i s) = md_p o i s ↔ N.2.1 (6 * g i + s) = 6 * g i + s := by
  have hB := md_Bok R (g' := g) (k := 0) (fun c _ => rfl) (fun c h1 h2 => by omega)
  have r6 := R.2.2.2.2.2.2.2
  have D := md_Dp (o := o) (E := E) hs h3
  have q := r6.1 _ D
  have eP : md_P o U g (md_p o i s) = 6 * g i + s := md_Pp h3
  rw [eP] at q
  constructor
  · intro z
    rw [q.2, z, eP]
  · intro z
    refine hB.1 _ _ (md_DB e 0 rk _ q.1) (md_DB e 0 rk _ D) ?_
    rw [← q.2, z, eP]
section
variable {fc fe fs fl fr : Int32} {ak aw xk xw ir re : Nat → Int32} {gc gw ge gm gl gs : Int32} {bk bf bs rk rf rs mt : Nat → Int32}
theorem lf_x {post : Int32 → SX → Prop} {e : Nat} {k : Int32} (he : e ≤ 492) (H : post (nI (cn_c (fun i => decide (xk i = k)) e)) (fc, nI e, fs, fl, fr, ak, aw, xk, xw, ir, re)) : ∃ n23 : Nat, wX_left_23 post k fc (nI e) fs fl fr ak aw xk xw ir re n23 0 0 := by
  have key : ∀ d i, i + d = e → wX_left_23 post k fc (nI e) fs fl fr ak aw xk xw ir re (d + 1) (nI (cn_c (fun i => decide (xk i = k)) i)) (nI i) := by
    intro d
    induction d with
    | zero =>
      intro i hi
      have : i = e := by omega
      subst this
      exact br_t (nI_le (by omega) (by omega)) H
    | succ d ih =>
      intro i hi
      have nx := ih (i + 1) (by omega)
      refine br_f (nI_ge (by omega) (by omega)) ?_
      rw [nI_clamp (show i < 2 ^ 31 by omega)]
      refine ⟨vp_in_nI (by omega) (by omega), ?_⟩
      by_cases z : xk i = k
      · rw [cn_t (decide_eq_true z)] at nx
        exact br_t z (nm_r (nI_1 _) (nm_r (nI_1 i) nx))
      · rw [cn_f (decide_eq_false z)] at nx
        exact br_f z (nm_r (nI_1 i) nx)
  exact ⟨_, key e 0 (by omega)⟩
theorem lf_y {post : Int32 → Prop} {e : Nat} {k : Int32} (he : e ≤ 500) (H : post (nI (cn_c (fun i => decide (rk i = k)) e))) : wpY_countLeft post (gc, gw, nI e, gm, gl, gs, bk, bf, bs, rk, rf, rs, mt) k := by
  have key : ∀ d i, i + d = e → wY_countLeft_4 post k gc gw (nI e) gm gl gs bk bf bs rk rf rs mt (d + 1) (nI (cn_c (fun i => decide (rk i = k)) i)) (nI i) := by
    intro d
    induction d with
    | zero =>
      intro i hi
      have : i = e := by omega
      subst this
      exact br_t (nI_le (by omega) (by omega)) H
    | succ d ih =>
      intro i hi
      have nx := ih (i + 1) (by omega)
      refine br_f (nI_ge (by omega) (by omega)) ?_
      rw [nI_clamp (show i < 2 ^ 31 by omega)]
      refine ⟨vp_in_nI (by omega) (by omega), ?_⟩
      by_cases z : rk i = k
      · rw [cn_t (decide_eq_true z)] at nx
        exact br_t z (nm_r (nI_1 _) (nm_r (nI_1 i) nx))
      · rw [cn_f (decide_eq_false z)] at nx
        exact br_f z (nm_r (nI_1 i) nx)
  exact ⟨_, key e 0 (by omega)⟩
end
theorem lf_le {o : Nat} {E : Nat → Prop} {U : Nat → Nat} {e : Nat} {rk : Nat → Int32} {h g : Nat → Nat} {N : fz_N} {o' : Nat} {E' : Nat → Prop} {U' : Nat → Nat} {e' : Nat} {rk' : Nat → Int32} {h' g' : Nat → Nat}
    (R : md_R o E U e rk h g N) (R' : md_R o' E' U' e' rk' h' g' N) {k : Int32} (hk : k ≠ -1) : cn_c (fun i => decide (rk i = k)) e ≤ cn_c (fun i => decide (rk' i = k)) e' := by
  refine cn_rel (R := fun i j => g' j = g i) e _ (fun i hi pi => ?_) (fun i i' j hi hi' pi pi' r1 r2 => ?_)
  · have p := of_decide_eq_true pi
    obtain ⟨j, h1, h2, h3⟩ := rn_iso R R' hi (by rw [p]; exact hk)
    exact ⟨j, h1, decide_eq_true (h2.trans p), h3⟩
  · have p := of_decide_eq_true pi
    have p' := of_decide_eq_true pi'
    exact R.2.2.2.2.1 i i' hi hi' (by rw [p]; exact hk) (by rw [p']; exact hk) (r1.symm.trans r2)
theorem i_vc_steps {k : Nat} {u : SX} {v : SY} (I : i_Rel k u v) (hk : k + 3 ≤ 1536) : wpX_steps (fun r u' => wpY_steps (fun r' v' => r' = r ∧ i_Rel (k + 3) u' v') v) u := by
  obtain ⟨fc, fe, fs, fl, fr, ak, aw, xk, xw, ir, re⟩ := u
  obtain ⟨gc, gw, ge, gm, gl, gs, bk, bf, bs, rk, rf, rs, mt⟩ := v
  obtain ⟨c, m, h, e1, e2, e3, e4, R⟩ := I
  dsimp only at e1 e2 e3 e4 R
  have e5 := e4.symm
  clear e4
  subst e1 e2 e3 e5
  unfold wpX_steps wpY_steps
  dsimp only
  refine rn_b (ge := ge) (gm := gm) (gl := gl) (gs := gs) (rk := rk) (rf := rf) (rs := rs) (mt := mt) R (fun e l n xk' xw' hY => ?_) (fun n N e l xk' xw' hx gx hn no RX hY => ?_)
  · refine br_t rfl (hY _ (fun e' l' m' n rk' rf' rs' => ?_))
    exact br_t rfl ⟨rfl, ir_mk R⟩
  · refine br_f (by decide) (hY _ (fun e' l' m' rk' rf' rs' hy gy RY => ?_))
    exact br_f (by decide) ⟨rfl, ir_mk R⟩
theorem i_vc_loops {k : Nat} {u : SX} {v : SY} (I : i_Rel k u v) (hk : k + 3 ≤ 1536) : wpX_loops (fun r u' => wpY_loops (fun r' v' => r' = r ∧ i_Rel (k + 3) u' v') v) u := by
  obtain ⟨fc, fe, fs, fl, fr, ak, aw, xk, xw, ir, re⟩ := u
  obtain ⟨gc, gw, ge, gm, gl, gs, bk, bf, bs, rk, rf, rs, mt⟩ := v
  obtain ⟨c, m, h, e1, e2, e3, e4, R⟩ := I
  dsimp only at e1 e2 e3 e4 R
  have e5 := e4.symm
  clear e4
  subst e1 e2 e3 e5
  unfold wpX_loops wpY_loops
  dsimp only
  refine rn_b (ge := ge) (gm := gm) (gl := gl) (gs := gs) (rk := rk) (rf := rf) (rs := rs) (mt := mt) R (fun e l n xk' xw' hY => ?_) (fun n N e l xk' xw' hx gx hn no RX hY => ?_)
  · refine br_t rfl (hY _ (fun e' l' m' n rk' rf' rs' => ?_))
    exact br_t rfl ⟨rfl, ir_mk R⟩
  · refine br_f (by decide) (hY _ (fun e' l' m' rk' rf' rs' hy gy RY => ?_))
    refine br_f (by decide) ⟨?_, ir_mk R⟩
    have a := RX.2.2.1
    have b := RY.2.2.1
    have : l' = l := by omega
    dsimp only
    rw [this]
theorem i_vc_left {k : Nat} {u : SX} {v : SY} (I : i_Rel k u v) (hk : k + 3 ≤ 1536) (v1 : Int32) : wpX_left (fun r u' => wpY_left (fun r' v' => r' = r ∧ i_Rel (k + 3) u' v') v v1) u v1 := by
  obtain ⟨fc, fe, fs, fl, fr, ak, aw, xk, xw, ir, re⟩ := u
  obtain ⟨gc, gw, ge, gm, gl, gs, bk, bf, bs, rk, rf, rs, mt⟩ := v
  obtain ⟨c, m, h, e1, e2, e3, e4, R⟩ := I
  dsimp only at e1 e2 e3 e4 R
  have e5 := e4.symm
  clear e4
  subst e1 e2 e3 e5
  unfold wpX_left wpY_left wpX_isKind
  dsimp only
  by_cases z : v1 < 0
  · exact br_t z (br_t rfl (br_t z ⟨rfl, ir_mk R⟩))
  · have nm : v1 ≠ -1 := fun e => z (by rw [e]; decide)
    obtain ⟨j, hj, rfl⟩ := nI_of z
    refine br_f z ?_
    by_cases l3 : j < 3
    · refine br_f (nI_ge (b := 3) l3 (by omega)) (br_f (by decide) ?_)
      have le2 : nI j ≤ 2 := nI_le (b := 2) (by omega) (by omega)
      refine rn_b (ge := ge) (gm := gm) (gl := gl) (gs := gs) (rk := rk) (rf := rf) (rs := rs) (mt := mt) R (fun e l n xk' xw' hY => ?_) (fun n N e l xk' xw' hx gx hn no RX hY => ?_)
      · refine br_t rfl (br_f z (br_t le2 (hY _ (fun e' l' m' n rk' rf' rs' => ?_))))
        exact br_t rfl ⟨rfl, ir_mk R⟩
      · have e4 := RX.2.2.2.2
        refine br_f (by decide) (lf_x (by omega) ?_)
        refine br_f z (br_t le2 (hY _ (fun e' l' m' rk' rf' rs' hy gy RY => ?_)))
        have e4' := RY.2.2.2.1
        refine br_f (by decide) (lf_y (by omega) ⟨?_, ir_mk R⟩)
        rw [Nat.le_antisymm (lf_le RY.1 RX.1 nm) (lf_le RX.1 RY.1 nm)]
    · exact br_t (nI_le (a := 3) (by omega) hj) (br_t rfl (br_f z (br_f (nI_ge (a := 2) (by omega) hj) ⟨rfl, ir_mk R⟩)))
end
section
/-! ports without a wire, counted -/
def op_q (o : Nat) (h : Nat → Nat) (c s : Nat) : Bool := decide (h (md_p o c s) = md_p o c s)
def op_T (o : Nat) (h v : Nat → Nat) : Nat → Nat
  | 0 => 0
  | c + 1 => op_T o h v c + cn_c (op_q o h c) (v c)
def op_a (o : Nat) (h v : Nat → Nat) (s c : Nat) : Bool := decide (s < v c ∧ h (md_p o c s) = md_p o c s)
theorem op_1 (q : Nat → Bool) (v : Nat) (hv : v ≤ 3) : cn_c q v = (if 0 < v ∧ q 0 = true then 1 else 0) + (if 1 < v ∧ q 1 = true then 1 else 0) + (if 2 < v ∧ q 2 = true then 1 else 0) := by
  have : v = 0 ∨ v = 1 ∨ v = 2 ∨ v = 3 := by omega
  rcases this with rfl | rfl | rfl | rfl <;> simp [cn_c]
theorem op_2 (o : Nat) (h v : Nat → Nat) (s c : Nat) : cn_c (op_a o h v s) (c + 1) = cn_c (op_a o h v s) c + (if s < v c ∧ op_q o h c s = true then 1 else 0) := by
  show cn_c _ c + _ = _
  congr 1
  unfold op_a op_q
  by_cases z : s < v c ∧ h (md_p o c s) = md_p o c s
  · rw [if_pos (decide_eq_true z), if_pos ⟨z.1, decide_eq_true z.2⟩]
  · have z2 : ¬ (s < v c ∧ decide (h (md_p o c s) = md_p o c s) = true) := fun w => z ⟨w.1, of_decide_eq_true w.2⟩
    have z1 : ¬ decide (s < v c ∧ h (md_p o c s) = md_p o c s) = true := fun w => z (of_decide_eq_true w)
    rw [if_neg z1, if_neg z2]
theorem op_TA (o : Nat) (h v : Nat → Nat) (hv : ∀ c, v c ≤ 3) : ∀ e, op_T o h v e = cn_c (op_a o h v 0) e + cn_c (op_a o h v 1) e + cn_c (op_a o h v 2) e
  | 0 => rfl
  | e + 1 => by
    show op_T o h v e + _ = _
    rw [op_TA o h v hv e, op_1 _ _ (hv e), op_2, op_2, op_2]
    omega
theorem op_le {o : Nat} {E : Nat → Prop} {U : Nat → Nat} {e : Nat} {rk : Nat → Int32} {h g : Nat → Nat} {N : fz_N} {o' : Nat} {E' : Nat → Prop} {U' : Nat → Nat} {e' : Nat} {rk' : Nat → Int32} {h' g' : Nat → Nat}
    (R : md_R o E U e rk h g N) (R' : md_R o' E' U' e' rk' h' g' N) {s : Nat} (h3 : s < 3) : cn_c (op_a o h (md_v e rk) s) e ≤ cn_c (op_a o' h' (md_v e' rk') s) e' := by
  have live : ∀ i, i < e → s < md_v e rk i → rk i ≠ -1 := by
    intro i hi hs z
    unfold md_v at hs
    rw [if_pos hi, z, md_pk_m] at hs
    omega
  refine cn_rel (R := fun i j => g' j = g i) e _ (fun i hi pi => ?_) (fun i i' j hi hi' pi pi' r1 r2 => ?_)
  · have p := of_decide_eq_true pi
    have l := live i hi p.1
    obtain ⟨j, h1, h2, h4⟩ := rn_iso R R' hi l
    have vv : md_v e' rk' j = md_v e rk i := by unfold md_v; rw [if_pos h1, if_pos hi, h2]
    refine ⟨j, h1, decide_eq_true ⟨by rw [vv]; exact p.1, ?_⟩, h4⟩
    rw [rn_op R' (by rw [vv]; exact p.1) h3, h4]
    exact (rn_op R p.1 h3).mp p.2
  · have p := of_decide_eq_true pi
    have p' := of_decide_eq_true pi'
    exact R.2.2.2.2.1 i i' hi hi' (live i hi p.1) (live i' hi' p'.1) (r1.symm.trans r2)
theorem op_v3 (e : Nat) (rk : Nat → Int32) (c : Nat) : md_v e rk c ≤ 3 := by
  unfold md_v
  split
  · exact md_pk_3 _
  · omega
theorem op_eq {o : Nat} {E : Nat → Prop} {U : Nat → Nat} {e : Nat} {rk : Nat → Int32} {h g : Nat → Nat} {N : fz_N} {o' : Nat} {E' : Nat → Prop} {U' : Nat → Nat} {e' : Nat} {rk' : Nat → Int32} {h' g' : Nat → Nat}
    (R : md_R o E U e rk h g N) (R' : md_R o' E' U' e' rk' h' g' N) : op_T o' h' (md_v e' rk') e' = op_T o h (md_v e rk) e := by
  rw [op_TA _ _ _ (op_v3 e rk), op_TA _ _ _ (op_v3 e' rk')]
  rw [Nat.le_antisymm (op_le R R' (s := 0) (by omega)) (op_le R' R (by omega)), Nat.le_antisymm (op_le R R' (s := 1) (by omega)) (op_le R' R (by omega)), Nat.le_antisymm (op_le R R' (s := 2) (by omega)) (op_le R' R (by omega))]
theorem xl_qs (c s : Nat) : (3 : Int32) * nI c + nI s = nI (md_p 0 c s) := by rw [xl_3, nI_add]; congr 1; unfold md_p; omega
section
variable {fc fe fs fl fr : Int32} {ak aw xk xw ir re : Nat → Int32} {gc gw ge gm gl gs : Int32} {bk bf bs rk rf rs mt : Nat → Int32}
theorem op_xi {post : Int32 → SX → Prop} {J : Int32 → Int32 → Prop} {c a v : Nat} {h : Nat → Nat} (hc : c < 492) (hv : v ≤ 3) (hb : xl_b h) (W : xl_W xw h) (H : J (nI (a + cn_c (op_q 0 h c) v)) (nI (c + 1))) :
    ∀ d s, s + d = v → wX_open_35 post J (nI c) (nI v) fc fe fs fl fr ak aw xk xw ir re (d + 1) (nI (a + cn_c (op_q 0 h c) s)) (nI s) := by
  intro d
  induction d with
  | zero =>
    intro s hs
    have : s = v := by omega
    subst this
    exact br_t (nI_le (by omega) (by omega)) (nm_r (nI_1 c) H)
  | succ d ih =>
    intro s hs
    have nx := ih (s + 1) (by omega)
    refine br_f (nI_ge (by omega) (by omega)) ?_
    have pb : md_p 0 c s < 1476 := xl_pb hc (by omega)
    rw [xl_qs, nI_clamp (show md_p 0 c s < 2 ^ 31 by omega), W _ pb]
    refine ⟨vp_in_nI pb (by omega), ?_⟩
    by_cases z : h (md_p 0 c s) = md_p 0 c s
    · have t : op_q 0 h c s = true := decide_eq_true z
      rw [cn_t t] at nx
      rw [z, md_fo_s]
      exact br_t rfl (nm_r (nI_1 _) (nm_r (nI_1 s) nx))
    · have t : op_q 0 h c s = false := decide_eq_false z
      rw [cn_f t] at nx
      refine br_f ?_ (nm_r (nI_1 s) nx)
      rw [md_fo_n z]
      have := hb _ pb
      exact xl_nm1 (by omega)
theorem op_x {post : Int32 → SX → Prop} {n : Nat} {N : fz_N} {e l : Nat} {h g : Nat → Nat} (R : xl_R n N e l xk xw h g) (hn : n ≤ 120) (H : post (nI (op_T 0 h (md_v e xk) e)) (fc, nI e, fs, fl, fr, ak, aw, xk, xw, ir, re)) : ∃ n14 : Nat, wX_open_14 post fc (nI e) fs fl fr ak aw xk xw ir re n14 0 0 := by
  have e4 := R.2.2.2.2
  have key : ∀ d i, i + d = e → wX_open_14 post fc (nI e) fs fl fr ak aw xk xw ir re (d + 1) (nI (op_T 0 h (md_v e xk) i)) (nI i) := by
    intro d
    induction d with
    | zero =>
      intro i hi
      have : i = e := by omega
      subst this
      exact br_t (nI_le (by omega) (by omega)) H
    | succ d ih =>
      intro i hi
      have nx := ih (i + 1) (by omega)
      refine br_f (nI_ge (by omega) (by omega)) ?_
      rw [nI_clamp (show i < 2 ^ 31 by omega)]
      refine ⟨vp_in_nI (by omega) (by omega), ?_⟩
      refine xl_pkd ?_
      have vi : md_v e xk i = md_pk (xk i) := by unfold md_v; rw [if_pos (by omega)]
      refine ⟨md_pk (xk i) + 1, ?_⟩
      refine op_xi (a := op_T 0 h (md_v e xk) i) (h := h) (by omega) (md_pk_3 _) (xl_Rb R hn) R.2.1 ?_ (md_pk (xk i)) 0 (by omega)
      rw [← vi]
      exact nx
  exact ⟨_, key e 0 (by omega)⟩
theorem op_yi {post : Int32 → SY → Prop} {J : Int32 → Int32 → Prop} {c a v m : Nat} {h : Nat → Nat} (hm : m ≤ 520) (hc : c < 500) (hv : v ≤ 3) (W : yl_W m rf rs h) (H : J (nI (a + cn_c (op_q 4 h c) v)) (nI (c + 1))) :
    ∀ d s, s + d = v → wY_open_54 post J (nI c) (nI v) gc gw ge (nI m) gl gs bk bf bs rk rf rs mt (d + 1) (nI (a + cn_c (op_q 4 h c) s)) (nI s) := by
  intro d
  induction d with
  | zero =>
    intro s hs
    have : s = v := by omega
    subst this
    exact br_t (nI_le (by omega) (by omega)) (nm_r (nI_1 c) H)
  | succ d ih =>
    intro s hs
    have nx := ih (s + 1) (by omega)
    refine br_f (nI_ge (by omega) (by omega)) ?_
    refine yl_po ?_
    obtain ⟨f, g, A, G⟩ := W
    refine yl_wo hm (yl_pb (by omega) (by omega)) A G (fun z => ?_) (fun i hi z => ?_)
    · have t : op_q 4 h c s = true := decide_eq_true z
      rw [cn_t t] at nx
      exact br_f (by decide) (nm_r (nI_1 _) (nm_r (nI_1 s) nx))
    · have gi := G.1 i hi
      have nz : h (md_p 4 c s) ≠ md_p 4 c s := by
        rcases z with z | ⟨_, z⟩
        · rw [← z, gi.2.2.2.1]; exact fun w => gi.2.2.1 w.symm
        · rw [← z, gi.2.2.2.2]; exact gi.2.2.1
      have t : op_q 4 h c s = false := decide_eq_false nz
      rw [cn_f t] at nx
      exact br_t (nI_pos' (by omega)) (nm_r (nI_1 s) nx)
theorem op_y {post : Int32 → SY → Prop} {n : Nat} {N : fz_N} {e l m : Nat} {h g : Nat → Nat} (R : yl_R n N e l m rk rf rs h g) (hn : n ≤ 120) (H : post (nI (op_T 4 h (md_v e rk) e)) (gc, gw, nI e, nI m, gl, gs, bk, bf, bs, rk, rf, rs, mt)) : ∃ n14 : Nat, wY_open_14 post gc gw (nI e) (nI m) gl gs bk bf bs rk rf rs mt n14 0 0 := by
  have e4 := R.2.2.2.1
  have m3 := R.2.2.2.2
  have key : ∀ d i, i + d = e → wY_open_14 post gc gw (nI e) (nI m) gl gs bk bf bs rk rf rs mt (d + 1) (nI (op_T 4 h (md_v e rk) i)) (nI i) := by
    intro d
    induction d with
    | zero =>
      intro i hi
      have : i = e := by omega
      subst this
      exact br_t (nI_le (by omega) (by omega)) H
    | succ d ih =>
      intro i hi
      have nx := ih (i + 1) (by omega)
      refine br_f (nI_ge (by omega) (by omega)) ?_
      rw [nI_clamp (show i < 2 ^ 31 by omega)]
      refine ⟨vp_in_nI (by omega) (by omega), ?_⟩
      have vi : md_v e rk i = md_pk (rk i) := by unfold md_v; rw [if_pos (by omega)]
      have inn : ∀ v, md_pk (rk i) = v → ∃ n54 : Nat, wY_open_54 post (wY_open_14 post gc gw (nI e) (nI m) gl gs bk bf bs rk rf rs mt (d + 1)) (nI i) (nI v) gc gw (nI e) (nI m) gl gs bk bf bs rk rf rs mt n54 (nI (op_T 4 h (md_v e rk) i)) 0 := by
        intro v hv
        refine ⟨v + 1, ?_⟩
        refine op_yi (a := op_T 4 h (md_v e rk) i) (h := h) (by omega) (by omega) (by rw [← hv]; exact md_pk_3 _) R.2.1 ?_ v 0 (by omega)
        rw [← hv, ← vi]
        exact nx
      by_cases z : rk i = -1
      · refine br_f (by rw [z]; decide) (inn 0 (by rw [z]; decide))
      · have k := R.1.2.2.1 i (by omega) z
        have k3 : fz_k3 (rk i) := by
          rw [← k]
          exact (R.1.1.2 _ (by rw [k]; exact z)).2.1
        refine br_t (by rcases k3 with w | w | w <;> rw [w] <;> decide) ⟨vp_in_nI (by omega) (by omega), ?_⟩
        by_cases y : rk i = 2
        · exact br_t y (inn 1 (by rw [y]; decide))
        · refine br_f y (inn 3 ?_)
          rcases k3 with w | w | w
          · rw [w]; decide
          · rw [w]; decide
          · exact absurd w y
  exact ⟨_, key e 0 (by omega)⟩
end
theorem i_vc_open {k : Nat} {u : SX} {v : SY} (I : i_Rel k u v) (hk : k + 3 ≤ 1536) : wpX_open (fun r u' => wpY_open (fun r' v' => r' = r ∧ i_Rel (k + 3) u' v') v) u := by
  obtain ⟨fc, fe, fs, fl, fr, ak, aw, xk, xw, ir, re⟩ := u
  obtain ⟨gc, gw, ge, gm, gl, gs, bk, bf, bs, rk, rf, rs, mt⟩ := v
  obtain ⟨c, m, h, e1, e2, e3, e4, R⟩ := I
  dsimp only at e1 e2 e3 e4 R
  have e5 := e4.symm
  clear e4
  subst e1 e2 e3 e5
  unfold wpX_open wpY_open
  dsimp only
  refine rn_b (ge := ge) (gm := gm) (gl := gl) (gs := gs) (rk := rk) (rf := rf) (rs := rs) (mt := mt) R (fun e l n xk' xw' hY => ?_) (fun n N e l xk' xw' hx gx hn no RX hY => ?_)
  · refine br_t rfl (hY _ (fun e' l' m' n rk' rf' rs' => ?_))
    exact br_t rfl ⟨rfl, ir_mk R⟩
  · refine br_f (by decide) (op_x RX hn ?_)
    refine hY _ (fun e' l' m' rk' rf' rs' hy gy RY => ?_)
    refine br_f (by decide) (op_y RY hn ⟨?_, ir_mk R⟩)
    rw [op_eq RX.1 RY.1]
end
section
/-! walk -/
theorem wk_inj {o : Nat} {E : Nat → Prop} {U : Nat → Nat} {e : Nat} {rk : Nat → Int32} {h g : Nat → Nat} {N : fz_N} (R : md_R o E U e rk h g N) {x y : Nat} (dx : md_D o E (md_v e rk) x) (dy : md_D o E (md_v e rk) y) (z : md_P o U g x = md_P o U g y) : x = y := by
  have hB := md_Bok R (g' := g) (k := 0) (fun c _ => rfl) (fun c h1 h2 => by omega)
  exact hB.1 _ _ (md_DB e 0 rk _ dx) (md_DB e 0 rk _ dy) z
/-- far ports of one port of the net, on both sides -/
theorem wk_far {n : Nat} {N : fz_N} {e l : Nat} {xk xw : Nat → Int32} {hx gx : Nat → Nat} (RX : xl_R n N e l xk xw hx gx) {e' l' m' : Nat} {rk' rf' rs' : Nat → Int32} {hy gy : Nat → Nat} (RY : yl_R n N e' l' m' rk' rf' rs' hy gy) {x y : Nat} (dx : md_D 0 xl_E (md_v e xk) x) (dy : md_D 4 yl_E (md_v e' rk') y) (exy : md_P 0 xl_U gx x = md_P 4 yl_U gy y) :
    md_D 0 xl_E (md_v e xk) (hx x) ∧ md_D 4 yl_E (md_v e' rk') (hy y) ∧ md_P 0 xl_U gx (hx x) = md_P 4 yl_U gy (hy y) ∧ (hx x = x ↔ hy y = y) := by
  have a := RX.1.2.2.2.2.2.2.2.1 x dx
  have b := RY.1.2.2.2.2.2.2.2.1 y dy
  have ef : md_P 0 xl_U gx (hx x) = md_P 4 yl_U gy (hy y) := by rw [← a.2, ← b.2, exy]
  refine ⟨a.1, b.1, ef, fun z => ?_, fun z => ?_⟩
  · refine wk_inj RY.1 b.1 dy ?_
    rw [← ef, z, exy]
  · refine wk_inj RX.1 a.1 dx ?_
    rw [ef, z, exy]
/-- a port of the net is an end, or a port of a live cell, on both sides -/
theorem wk_cls {n : Nat} {N : fz_N} {e l : Nat} {xk xw : Nat → Int32} {hx gx : Nat → Nat} (RX : xl_R n N e l xk xw hx gx) {e' l' m' : Nat} {rk' rf' rs' : Nat → Int32} {hy gy : Nat → Nat} (RY : yl_R n N e' l' m' rk' rf' rs' hy gy) {p q : Nat} (dx : md_D 0 xl_E (md_v e xk) p) (dy : md_D 4 yl_E (md_v e' rk') q) (epq : md_P 0 xl_U gx p = md_P 4 yl_U gy q) :
    (∃ j, j < 4 ∧ p = 30 + j ∧ q = j) ∨ ∃ i j s, p = md_p 0 i s ∧ q = md_p 4 j s ∧ i < e ∧ j < e' ∧ s < 3 ∧ s < md_v e xk i ∧ gx i = gy j ∧ xk i ≠ -1 ∧ rk' j = xk i := by
  have n6 := RX.1.2.1.1
  have n7 := RX.1.2.1.2
  have liv : ∀ {o : Nat} {E : Nat → Prop} {U : Nat → Nat} {e : Nat} {rk : Nat → Int32} {h g : Nat → Nat} (_ : md_R o E U e rk h g N) (x : Nat), o ≤ x → (x - o) % 3 < md_v e rk ((x - o) / 3) → (x - o) / 3 < e ∧ rk ((x - o) / 3) ≠ -1 ∧ g ((x - o) / 3) ≠ 26 ∧ g ((x - o) / 3) ≠ 27 := by
    intro o E U e rk h g R x ho hv
    have l : (x - o) / 3 < e := by
      by_cases c : (x - o) / 3 < e
      · exact c
      · unfold md_v at hv
        rw [if_neg c] at hv
        omega
    have k : rk ((x - o) / 3) ≠ -1 := by
      intro z
      unfold md_v at hv
      rw [if_pos l, z, md_pk_m] at hv
      omega
    have kk := R.2.2.1 _ l k
    refine ⟨l, k, fun z => k ?_, fun z => k ?_⟩
    · rw [← kk, z]; exact n6
    · rw [← kk, z]; exact n7
  rcases dx with dx | ⟨dx, cx⟩ <;> rcases dy with dy | ⟨dy, cy⟩
  · left
    have a := (RX.1.2.2.2.2.2.1 p dx).2.2.2
    have b := (RY.1.2.2.2.2.2.1 q dy).2.2.2
    rw [a, b] at epq
    unfold xl_E at dx
    unfold yl_E at dy
    unfold xl_U yl_U at epq
    refine ⟨q, dy, ?_, rfl⟩
    split at epq <;> omega
  · exfalso
    have a := (RX.1.2.2.2.2.2.1 p dx).2.1
    have b := liv RY.1 q dy cy
    have c : md_P 4 yl_U gy q = 6 * gy ((q - 4) / 3) + (q - 4) % 3 := by unfold md_P; rw [if_pos dy]
    rw [epq, c] at a
    omega
  · exfalso
    have a := (RY.1.2.2.2.2.2.1 q dy).2.1
    have b := liv RX.1 p dx cx
    have c : md_P 0 xl_U gx p = 6 * gx ((p - 0) / 3) + (p - 0) % 3 := by unfold md_P; rw [if_pos dx]
    rw [← epq, c] at a
    omega
  · right
    have a := liv RX.1 p dx cx
    have b := liv RY.1 q dy cy
    have c1 : md_P 0 xl_U gx p = 6 * gx ((p - 0) / 3) + (p - 0) % 3 := by unfold md_P; rw [if_pos dx]
    have c2 : md_P 4 yl_U gy q = 6 * gy ((q - 4) / 3) + (q - 4) % 3 := by unfold md_P; rw [if_pos dy]
    rw [c1, c2] at epq
    have ss : (p - 0) % 3 = (q - 4) % 3 := by omega
    have gg : gx ((p - 0) / 3) = gy ((q - 4) / 3) := by omega
    refine ⟨(p - 0) / 3, (q - 4) / 3, (p - 0) % 3, by unfold md_p; omega, by unfold md_p; omega, a.1, b.1, by omega, cx, gg, a.2.1, ?_⟩
    rw [← RY.1.2.2.1 _ b.1 b.2.1, ← gg, RX.1.2.2.1 _ a.1 a.2.1]
theorem xl_t2 {t : Nat} (h : t < 2 ^ 31) : nI t - nI t / 2 * 2 = nI (t % 2) := pk_rem (d := 2) h (by omega) (by omega)
theorem xl_d2 {t : Nat} (h : t < 2 ^ 31) : nI t / 2 = nI (t / 2) := pk_div (d := 2) h (by omega) (by omega)
/-- the slot behind a port, by the lowest digit of the turns -/
def wk_s (s t : Nat) : Nat := if t % 2 = 1 then (s + 1) % 3 else (s + 2) % 3
theorem wk_s3 (s t : Nat) : wk_s s t < 3 := by unfold wk_s; split <;> omega
theorem wk_pb {post : Int32 → Prop} {i s t : Nat} (hi : i < 492) (hs : s < 3) (ht : t < 2 ^ 31) (H : post (nI (md_p 0 i (wk_s s t)))) : wpX_portBehind post (nI (md_p 0 i s)) (nI t) := by
  have pb : md_p 0 i s < 1476 := xl_pb hi hs
  have es : md_p 0 i s % 3 = s := by unfold md_p; omega
  have key : ∀ z : Nat, z < 3 → (nI (md_p 0 i s) - nI s) + ((nI s + nI z) - (nI s + nI z) / 3 * 3) = nI (md_p 0 i ((s + z) % 3)) := by
    intro z hz
    rw [pk_sub (by unfold md_p; omega), nI_add, xl_rm (by omega), nI_add]
    congr 1
    unfold md_p
    omega
  unfold wk_s at H
  unfold wpX_portBehind
  rw [xl_rm (by omega), es, xl_t2 ht]
  refine ⟨by decide, nm_e ⟨by decide, ?_⟩⟩
  by_cases c : t % 2 = 1
  · rw [if_pos c] at H
    rw [c]
    refine br_t rfl ?_
    unfold wX_portBehind_16
    refine ⟨by decide, ?_⟩
    have := key 1 (by omega)
    rw [← this] at H
    exact H
  · rw [if_neg c] at H
    have c0 : t % 2 = 0 := by omega
    rw [c0]
    refine br_f (by decide) ?_
    unfold wX_portBehind_16
    refine ⟨by decide, ?_⟩
    have := key 2 (by omega)
    rw [← this] at H
    exact H
def wk_at (e : Nat) (xk : Nat → Int32) (gx : Nat → Nat) (e' : Nat) (rk' : Nat → Int32) (gy : Nat → Nat) (xa ya : Int32) : Prop :=
  (xa = -1 ∧ ya = -1) ∨ ∃ p q, xa = nI p ∧ ya = nI q ∧ md_D 0 xl_E (md_v e xk) p ∧ md_D 4 yl_E (md_v e' rk') q ∧ md_P 0 xl_U gx p = md_P 4 yl_U gy q
theorem wk_fo {n : Nat} {N : fz_N} {e l : Nat} {xk xw : Nat → Int32} {hx gx : Nat → Nat} (RX : xl_R n N e l xk xw hx gx) {e' l' m' : Nat} {rk' rf' rs' : Nat → Int32} {hy gy : Nat → Nat} (RY : yl_R n N e' l' m' rk' rf' rs' hy gy) {x y : Nat} (dx : md_D 0 xl_E (md_v e xk) x) (dy : md_D 4 yl_E (md_v e' rk') y) (exy : md_P 0 xl_U gx x = md_P 4 yl_U gy y) : wk_at e xk gx e' rk' gy (md_fo x (hx x)) (md_fo y (hy y)) := by
  obtain ⟨a, b, c, d⟩ := wk_far RX RY dx dy exy
  by_cases z : hx x = x
  · left
    rw [z, d.mp z]
    exact ⟨md_fo_s, md_fo_s⟩
  · right
    exact ⟨hx x, hy y, md_fo_n z, md_fo_n (fun w => z (d.mpr w)), a, b, c⟩
section
variable {fc fs fl fr : Int32} {ak aw ir re : Nat → Int32}
theorem wk_l {n : Nat} {N : fz_N} {e l : Nat} {xk xw : Nat → Int32} {hx gx : Nat → Nat} (RX : xl_R n N e l xk xw hx gx) (hn : n ≤ 120) : ∀ t, t ≤ 4095 → ∀ xa : Int32, (xa = -1 ∨ ∃ p, xa = nI p ∧ md_D 0 xl_E (md_v e xk) p) → ∃ r : Int32,
    (∀ post : Int32 → SX → Prop, post r (fc, nI e, fs, fl, fr, ak, aw, xk, xw, ir, re) → ∃ n43 : Nat, wX_walk_43 post fc (nI e) fs fl fr ak aw xk xw ir re n43 xa (nI t)) ∧
    (∀ (e' l' m' : Nat) (rk' rf' rs' : Nat → Int32) (hy gy : Nat → Nat), yl_R n N e' l' m' rk' rf' rs' hy gy → ∀ ya : Int32, wk_at e xk gx e' rk' gy xa ya → ∀ (gc gw gl gs : Int32) (bk bf bs mt : Nat → Int32) (post : Int32 → SY → Prop), post r (gc, gw, nI e', nI m', gl, gs, bk, bf, bs, rk', rf', rs', mt) → ∃ n41 : Nat, wY_walk_41 post gc gw (nI e') (nI m') gl gs bk bf bs rk' rf' rs' mt n41 ya (nI t)) := by
  have e4 := RX.2.2.2.2
  intro t
  induction t using Nat.strongRecOn with
  | ind t ih =>
  intro ht xa hxa
  rcases hxa with hxa | ⟨p, hxa, dp⟩
  · -- a port without a wire
    subst hxa
    refine ⟨9, fun post H => ⟨0 + 1, ?_⟩, fun e' l' m' rk' rf' rs' hy gy RY ya hat gc gw gl gs bk bf bs mt post H => ⟨0 + 1, ?_⟩⟩
    · have stop : wX_walk_81 post (-1) fc (nI e) fs fl fr ak aw xk xw ir re := by
        unfold wX_walk_81 wpX_stopAnswer
        exact br_t rfl H
      by_cases t0 : t = 0
      · rw [t0]
        exact br_t (by decide) stop
      · refine br_f (nI_nle (by omega) (by omega)) ?_
        unfold wpX_isPairPort
        exact br_t rfl (br_t rfl stop)
    · rcases hat with ⟨_, hat⟩ | ⟨p, q, hp, _, d, _⟩
      · rw [hat]
        refine br_t (by decide) ?_
        unfold wY_walk_118
        exact br_f (by decide) H
      · have := md_DB e 0 xk _ d
        unfold xl_E at this
        exact absurd hp.symm (xl_nm1 (by omega))
  · subst hxa
    have pl : p < 1476 := by
      have := md_DB e 0 xk _ dp
      unfold xl_E at this
      omega
    by_cases pE : xl_E p
    · -- an end
      have xd := (RX.1.2.2.2.2.2.1 p pE).1 (Nat.zero_le _)
      rw [Nat.sub_zero] at xd
      unfold xl_E at pE
      refine ⟨nI (10 + p - 30), fun post H => ⟨0 + 1, ?_⟩, fun e' l' m' rk' rf' rs' hy gy RY ya hat gc gw gl gs bk bf bs mt post H => ⟨0 + 1, ?_⟩⟩
      · have stop : wX_walk_81 post (nI p) fc (nI e) fs fl fr ak aw xk xw ir re := by
          unfold wX_walk_81 wpX_stopAnswer
          refine br_f (xl_nm1 (by omega)) (xl_ie (by omega) ?_)
          rw [if_pos pE]
          refine br_f (by decide) ?_
          have e1 : (10 + nI p) - 30 = nI (10 + p - 30) := by
            rw [show (10 : Int32) + nI p = nI (10 + p) from nI_add 10 p]
            exact pk_sub (b := 30) (by omega)
          rw [e1]
          exact H
        by_cases t0 : t = 0
        · rw [t0]
          exact br_t (by decide) stop
        · refine br_f (nI_nle (by omega) (by omega)) ?_
          unfold wpX_isPairPort wpX_isPair
          dsimp only
          rw [xl_dv (by omega), nI_clamp (by omega), xd.2]
          refine br_f (xl_nm1 (by omega)) ⟨by decide, vp_in_nI (by omega) (by omega), br_f (by decide) (br_f (by decide) (br_t rfl (br_t rfl stop)))⟩
      · rcases hat with ⟨hp, _⟩ | ⟨p', q, hp, hq, d, d', epq⟩
        · exact absurd hp (xl_nm1 (by omega))
        · have pp : p = p' := (nI_eq (by omega) (by have := md_DB e 0 xk _ d; unfold xl_E at this; omega)).mp hp
          subst pp
          rcases wk_cls RX RY d d' epq with ⟨j, j4, e1, e2⟩ | ⟨i, j, s, e1, _, hi, _, hs, hv, _⟩
          · subst e1 e2
            rw [hq]
            refine br_t (nI_le (b := 3) (by omega) (by omega)) ?_
            unfold wY_walk_118
            refine br_t (nI_pos' (by omega)) (br_f (nI_ge (b := 4) (by omega) (by omega)) ?_)
            rw [show (10 : Int32) + nI q = nI (10 + q) from nI_add 10 q]
            rw [show 10 + (30 + q) - 30 = 10 + q by omega] at H
            exact H
          · exfalso
            have q3 : p / 3 = i := by rw [e1]; unfold md_p; omega
            unfold md_v at hv
            rw [if_pos hi, ← q3, xd.2, md_pk_m] at hv
            omega
    · -- a port of a cell
      have cx : p % 3 < md_v e xk (p / 3) := by
        rcases dp with dp | ⟨_, dp⟩
        · exact absurd dp pE
        · rw [Nat.sub_zero] at dp; exact dp
      have ie : p / 3 < e := by
        by_cases c : p / 3 < e
        · exact c
        · unfold md_v at cx
          rw [if_neg c] at cx
          omega
      obtain ⟨i, hi⟩ : ∃ i, i = p / 3 := ⟨_, rfl⟩
      obtain ⟨s, hs⟩ : ∃ s, s = p % 3 := ⟨_, rfl⟩
      rw [← hi, ← hs] at cx
      rw [← hi] at ie
      have ep : p = md_p 0 i s := by unfold md_p; omega
      have s3 : s < 3 := by omega
      have li : xk i ≠ -1 := by
        intro z
        unfold md_v at cx
        rw [if_pos ie, z, md_pk_m] at cx
        omega
      have k := RX.1.2.2.1 i ie li
      have k3 : fz_k3 (xk i) := by
        rw [← k]
        exact (RX.1.1.2 _ (by rw [k]; exact li)).2.1
      have pE' : ¬ (30 ≤ p ∧ p ≤ 33) := pE
      have stop : ∀ post : Int32 → SX → Prop, post (3 * xk i + nI s) (fc, nI e, fs, fl, fr, ak, aw, xk, xw, ir, re) → wX_walk_81 post (nI p) fc (nI e) fs fl fr ak aw xk xw ir re := by
        intro post H
        unfold wX_walk_81 wpX_stopAnswer
        refine br_f (xl_nm1 (by omega)) (xl_ie (by omega) ?_)
        rw [if_neg pE', xl_rm (by omega), xl_dv (by omega), nI_clamp (by omega), ← hi, ← hs]
        exact br_t rfl ⟨by decide, vp_in_nI (by omega) (by omega), by decide, H⟩
      have ystop : ∀ (e' l' m' : Nat) (rk' rf' rs' : Nat → Int32) (hy gy : Nat → Nat), yl_R n N e' l' m' rk' rf' rs' hy gy → ∀ ya : Int32, wk_at e xk gx e' rk' gy (nI p) ya →
          ∃ j, j < e' ∧ ya = nI (md_p 4 j s) ∧ gx i = gy j ∧ rk' j = xk i ∧ ∀ (gc gw gl gs : Int32) (bk bf bs mt : Nat → Int32) (post : Int32 → SY → Prop), post (3 * xk i + nI s) (gc, gw, nI e', nI m', gl, gs, bk, bf, bs, rk', rf', rs', mt) → wY_walk_118 post (nI (md_p 4 j s)) gc gw (nI e') (nI m') gl gs bk bf bs rk' rf' rs' mt := by
        intro e' l' m' rk' rf' rs' hy gy RY ya hat
        have e4' := RY.2.2.2.1
        rcases hat with ⟨hp, _⟩ | ⟨p', q, hp, hq, d, d', epq⟩
        · exact absurd hp (xl_nm1 (by omega))
        · have pp : p = p' := (nI_eq (by omega) (by have := md_DB e 0 xk _ d; unfold xl_E at this; omega)).mp hp
          subst pp
          rcases wk_cls RX RY d d' epq with ⟨j, j4, e1, e2⟩ | ⟨i', j, s', e1, e2, hi', hj, hs', hv, hg, _, hr⟩
          · exfalso; omega
          · have ii : i' = i := by rw [hi, e1]; unfold md_p; omega
            have sse : s' = s := by rw [hs, e1]; unfold md_p; omega
            subst ii sse
            refine ⟨j, hj, by rw [hq, e2], hg, hr, fun gc gw gl gs bk bf bs mt post H => ?_⟩
            unfold wY_walk_118
            have e5 : nI (md_p 4 j s') - 4 = nI (3 * j + s') := by
              rw [show nI (md_p 4 j s') - 4 = nI (md_p 4 j s' - 4) from pk_sub (b := 4) (by unfold md_p; omega)]
              congr 1
              unfold md_p; omega
            rw [e5, xl_rm (by omega), xl_dv (by omega), show (3 * j + s') / 3 = j by omega, show (3 * j + s') % 3 = s' by omega, nI_clamp (by omega), hr]
            exact br_t (nI_pos' (by unfold md_p; omega)) (br_t (nI_le (a := 4) (by unfold md_p; omega) (by unfold md_p; omega)) ⟨by decide, vp_in_nI (by omega) (by omega), by decide, H⟩)
      have yhead : ∀ j, j < 490 → ¬ nI (md_p 4 j s) ≤ 3 := fun j hj => nI_ge (a := 3) (by unfold md_p; omega) (by unfold md_p; omega)
      by_cases t0 : t = 0
      · -- no turn left
        subst t0
        refine ⟨3 * xk i + nI s, fun post H => ⟨0 + 1, br_t (by decide) (stop post H)⟩, fun e' l' m' rk' rf' rs' hy gy RY ya hat gc gw gl gs bk bf bs mt post H => ?_⟩
        obtain ⟨j, hj, rfl, hg, hr, ys⟩ := ystop e' l' m' rk' rf' rs' hy gy RY ya hat
        have e4' := RY.2.2.2.1
        exact ⟨0 + 1, br_f (yhead j (by omega)) (br_t (by decide) (ys gc gw gl gs bk bf bs mt post H))⟩
      · by_cases k2 : xk i = 2
        · -- an eraser
          refine ⟨3 * xk i + nI s, fun post H => ⟨0 + 1, ?_⟩, fun e' l' m' rk' rf' rs' hy gy RY ya hat gc gw gl gs bk bf bs mt post H => ?_⟩
          · refine br_f (nI_nle (by omega) (by omega)) ?_
            unfold wpX_isPairPort wpX_isPair
            dsimp only
            rw [xl_dv (by omega), nI_clamp (by omega), ← hi, k2]
            have st := stop post H
            refine br_f (xl_nm1 (by omega)) ⟨by decide, vp_in_nI (by omega) (by omega), br_f (by decide) (br_f (by decide) (br_t rfl (br_t rfl st)))⟩
          · obtain ⟨j, hj, rfl, hg, hr, ys⟩ := ystop e' l' m' rk' rf' rs' hy gy RY ya hat
            have e4' := RY.2.2.2.1
            refine ⟨0 + 1, br_f (yhead j (by omega)) (br_f (nI_nle (by omega) (by omega)) ?_)⟩
            have e5 : nI (md_p 4 j s) - 4 = nI (3 * j + s) := by
              rw [show nI (md_p 4 j s) - 4 = nI (md_p 4 j s - 4) from pk_sub (b := 4) (by unfold md_p; omega)]
              congr 1
              unfold md_p; omega
            rw [e5, xl_dv (by omega), show (3 * j + s) / 3 = j by omega, nI_clamp (by omega), hr, k2]
            exact ⟨by decide, vp_in_nI (by omega) (by omega), br_t (by decide) (ys gc gw gl gs bk bf bs mt post H)⟩
        · -- onward
          have v3 : md_v e xk i = 3 := by
            unfold md_v
            rw [if_pos ie]
            rcases k3 with z | z | z
            · rw [z]; decide
            · rw [z]; decide
            · exact absurd z k2
          have kp : xk i = 0 ∨ xk i = 1 := by
            rcases k3 with z | z | z
            · exact Or.inl z
            · exact Or.inr z
            · exact absurd z k2
          have w3 := wk_s3 s t
          have dn : md_D 0 xl_E (md_v e xk) (md_p 0 i (wk_s s t)) := md_Dp (by rw [v3]; exact w3) w3
          have nb : md_p 0 i (wk_s s t) < 1476 := xl_pb (by omega) w3
          have dh := (RX.1.2.2.2.2.2.2.2.1 _ dn).1
          have hb := xl_Rb RX hn _ nb
          obtain ⟨r, rX, rY⟩ := ih (t / 2) (by omega) (by omega) (md_fo (md_p 0 i (wk_s s t)) (hx (md_p 0 i (wk_s s t)))) (by
            by_cases z : hx (md_p 0 i (wk_s s t)) = md_p 0 i (wk_s s t)
            · left; rw [z]; exact md_fo_s
            · right; exact ⟨_, md_fo_n z, dh⟩)
          refine ⟨r, fun post H => ?_, fun e' l' m' rk' rf' rs' hy gy RY ya hat gc gw gl gs bk bf bs mt post H => ?_⟩
          · obtain ⟨n', w⟩ := rX post H
            refine ⟨n' + 1, br_f (nI_nle (by omega) (by omega)) ?_⟩
            have pb : wpX_portBehind (fun r_46 => (vp_in r_46 1476 ∧ (∀ x3_48 : Int32, x3_48 = xw r_46.toNatClampNeg → (¬ (2 : Int32) = 0 ∧ (∀ x4_50 : Int32, x4_50 = nI t / 2 → (wX_walk_43 post fc (nI e) fs fl fr ak aw xk xw ir re n' x3_48 x4_50)))))) (nI p) (nI t) := by
              rw [ep]
              refine wk_pb (by omega) s3 (by omega) ⟨vp_in_nI nb (by omega), ?_⟩
              rw [nI_clamp (by omega), RX.2.1 _ nb, xl_d2 (by omega)]
              exact nm_e ⟨by decide, nm_e w⟩
            unfold wpX_isPairPort wpX_isPair
            dsimp only
            rw [xl_dv (by omega), nI_clamp (by omega), ← hi]
            refine br_f (xl_nm1 (by omega)) ⟨by decide, vp_in_nI (by omega) (by omega), ?_⟩
            rcases kp with z | z
            · rw [z]
              exact br_t rfl (br_f (by decide) (br_f (by decide) pb))
            · rw [z]
              exact br_f (by decide) (br_t rfl (br_f (by decide) (br_f (by decide) pb)))
          · obtain ⟨j, hj, rfl, hg, hr, ys⟩ := ystop e' l' m' rk' rf' rs' hy gy RY ya hat
            have e4' := RY.2.2.2.1
            have m3' := RY.2.2.2.2
            have dny : md_D 4 yl_E (md_v e' rk') (md_p 4 j (wk_s s t)) := by
              refine md_Dp ?_ w3
              have : md_v e' rk' j = md_v e xk i := by unfold md_v; rw [if_pos hj, if_pos ie, hr]
              rw [this, v3]; exact w3
            have eP : md_P 0 xl_U gx (md_p 0 i (wk_s s t)) = md_P 4 yl_U gy (md_p 4 j (wk_s s t)) := by rw [md_Pp w3, md_Pp w3, hg]
            obtain ⟨n', w⟩ := rY e' l' m' rk' rf' rs' hy gy RY _ (wk_fo RX RY dn dny eP) gc gw gl gs bk bf bs mt post H
            refine ⟨n' + 1, br_f (yhead j (by omega)) (br_f (nI_nle (by omega) (by omega)) ?_)⟩
            have e5 : nI (md_p 4 j s) - 4 = nI (3 * j + s) := by
              rw [show nI (md_p 4 j s) - 4 = nI (md_p 4 j s - 4) from pk_sub (b := 4) (by unfold md_p; omega)]
              congr 1
              unfold md_p; omega
            have fin : ∀ z : Nat, z < 3 → wk_s s t = (s + z) % 3 → wY_walk_95 post (wY_walk_41 post gc gw (nI e') (nI m') gl gs bk bf bs rk' rf' rs' mt n') (nI (md_p 4 j s)) (nI t) (nI s) (nI ((s + z) % 3)) gc gw (nI e') (nI m') gl gs bk bf bs rk' rf' rs' mt := by
              intro z hz ez
              unfold wY_walk_95
              refine ⟨by decide, ?_⟩
              rw [xl_d2 (by omega)]
              refine nm_e ?_
              have e6 : nI (md_p 4 j s) - nI s + nI ((s + z) % 3) = nI (md_p 4 j (wk_s s t)) := by
                rw [pk_sub (by unfold md_p; omega), nI_add, ez]
                congr 1
                unfold md_p; omega
              rw [e6]
              exact yl_ac (by omega) (yl_pb (by omega) w3) RY.2.1 w
            rw [e5, xl_rm (by omega), xl_dv (by omega), show (3 * j + s) / 3 = j by omega, show (3 * j + s) % 3 = s by omega, nI_clamp (by omega), hr, xl_t2 (by omega)]
            have n2 : ¬ (2 : Int32) ≤ xk i := by
              rcases kp with z | z
              · rw [z]; decide
              · rw [z]; decide
            refine ⟨by decide, vp_in_nI (by omega) (by omega), br_f n2 ⟨by decide, nm_e ⟨by decide, ?_⟩⟩⟩
            by_cases c : t % 2 = 1
            · have q := fin 1 (by omega) (by unfold wk_s; rw [if_pos c])
              rw [c]
              refine br_t rfl ⟨by decide, ?_⟩
              rw [xl_a1, xl_rm (by omega)]
              exact q
            · have q := fin 2 (by omega) (by unfold wk_s; rw [if_neg c])
              have c0 : t % 2 = 0 := by omega
              rw [c0]
              refine br_f (by decide) ⟨by decide, ?_⟩
              rw [xl_a2, xl_rm (by omega)]
              exact q
end
theorem wk_E {n : Nat} {N : fz_N} {e l : Nat} {xk xw : Nat → Int32} {hx gx : Nat → Nat} (RX : xl_R n N e l xk xw hx gx) {e' l' m' : Nat} {rk' rf' rs' : Nat → Int32} {hy gy : Nat → Nat} (RY : yl_R n N e' l' m' rk' rf' rs' hy gy) {j : Nat} (hj : j < 4) : md_D 0 xl_E (md_v e xk) (30 + j) ∧ md_D 4 yl_E (md_v e' rk') j ∧ md_P 0 xl_U gx (30 + j) = md_P 4 yl_U gy j := by
  have a : xl_E (30 + j) := ⟨by omega, by omega⟩
  have b : yl_E j := hj
  refine ⟨Or.inl a, Or.inl b, ?_⟩
  rw [(RX.1.2.2.2.2.2.1 _ a).2.2.2, (RY.1.2.2.2.2.2.1 _ b).2.2.2]
  unfold xl_U yl_U
  split <;> omega
theorem i_vc_walk {k : Nat} {u : SX} {v : SY} (I : i_Rel k u v) (hk : k + 3 ≤ 1536) (v1 : Int32) (v2 : Int32) : wpX_walk (fun r u' => wpY_walk (fun r' v' => r' = r ∧ i_Rel (k + 3) u' v') v v1 v2) u v1 v2 := by
  obtain ⟨fc, fe, fs, fl, fr, ak, aw, xk, xw, ir, re⟩ := u
  obtain ⟨gc, gw, ge, gm, gl, gs, bk, bf, bs, rk, rf, rs, mt⟩ := v
  obtain ⟨c, m, h, e1, e2, e3, e4, R⟩ := I
  dsimp only at e1 e2 e3 e4 R
  have e5 := e4.symm
  clear e4
  subst e1 e2 e3 e5
  unfold wpX_walk wpY_walk wpX_isEndIndex
  dsimp only
  by_cases z : v1 < 0
  · exact br_t z (br_t rfl (br_t z ⟨rfl, ir_mk R⟩))
  · obtain ⟨j, hj, rfl⟩ := nI_of z
    refine br_f z ?_
    by_cases j4 : j < 4
    · refine br_f (nI_ge (b := 4) j4 (by omega)) (br_f (by decide) ?_)
      have n3 : ¬ (3 : Int32) < nI j := nI_nlt (a := 3) (by omega) (by omega)
      by_cases z2 : v2 < 0
      · exact br_t z2 (br_f z (br_f n3 (br_t z2 ⟨rfl, ir_mk R⟩)))
      · obtain ⟨t, ht, rfl⟩ := nI_of z2
        refine br_f z2 ?_
        by_cases tl : t ≤ 4095
        · have tl' : nI t ≤ 4095 := nI_le (b := 4095) tl (by omega)
          refine br_t tl' ?_
          refine rn_b (ge := ge) (gm := gm) (gl := gl) (gs := gs) (rk := rk) (rf := rf) (rs := rs) (mt := mt) R (fun e l n xk' xw' hY => ?_) (fun n N e l xk' xw' hx gx hn no RX hY => ?_)
          · refine br_t rfl (br_f z (br_f n3 (br_f z2 (br_t tl' (hY _ (fun e' l' m' n rk' rf' rs' => ?_))))))
            exact br_t rfl ⟨rfl, ir_mk R⟩
          · have e4 := RX.2.2.2.2
            have d0 : md_D 0 xl_E (md_v e xk') (30 + j) := Or.inl ⟨by omega, by omega⟩
            have hb := xl_Rb RX hn (30 + j) (by omega)
            obtain ⟨r, rX, rY⟩ := wk_l (fc := nI c) (fs := nI n) (fl := nI l) (fr := fr) (ak := ak) (aw := aw) (ir := ir) (re := re) RX hn t tl (md_fo (30 + j) (hx (30 + j))) (by
              by_cases y : hx (30 + j) = 30 + j
              · left; rw [y]; exact md_fo_s
              · right; exact ⟨_, md_fo_n y, (RX.1.2.2.2.2.2.2.2.1 _ d0).1⟩)
            rw [show (30 : Int32) + nI j = nI (30 + j) from nI_add 30 j]
            refine br_f (by decide) ⟨vp_in_nI (by omega) (by omega), ?_⟩
            dsimp only
            rw [nI_clamp (by omega), RX.2.1 _ (by omega)]
            refine nm_e (rX _ ?_)
            refine br_f z (br_f n3 (br_f z2 (br_t tl' (hY _ (fun e' l' m' rk' rf' rs' hy gy RY => ?_)))))
            have m3' := RY.2.2.2.2
            obtain ⟨w1, w2, w3⟩ := wk_E RX RY j4
            refine br_f (by decide) ?_
            refine yl_ac (by omega) (by omega) RY.2.1 ?_
            exact rY e' l' m' rk' rf' rs' hy gy RY _ (wk_fo RX RY w1 w2 w3) _ _ _ _ _ _ _ _ _ ⟨rfl, ir_mk R⟩
        · have tl' : ¬ nI t ≤ 4095 := nI_ge (a := 4095) (by omega) ht
          exact br_f tl' (br_f z (br_f n3 (br_f z2 (br_f tl' ⟨rfl, ir_mk R⟩))))
    · exact br_t (nI_le (a := 4) (by omega) hj) (br_t rfl (br_f z (br_t (nI_lt (a := 3) (by omega) hj) ⟨rfl, ir_mk R⟩)))
end
section
/-! reach: the component's queue -/
def rc_cl (N : fz_N) (S : Nat → Prop) : Prop := ∀ a s b t, s < md_pk (N.1 a) → t < md_pk (N.1 b) → N.2.1 (6 * a + s) = 6 * b + t → S a → S b
def rc_st (N : fz_N) (j : Nat) (S : Nat → Prop) : Prop := ∀ b t, t < md_pk (N.1 b) → N.2.1 (yl_U j) = 6 * b + t → S b
theorem rc_n0 : vp_nar .boolean 0 = 0 := by
  unfold vp_nar
  rw [show narrow .boolean (.int 0) = .int 0 from lw_bz_n 0]
theorem rc_n1 : vp_nar .boolean 1 = 1 := by
  unfold vp_nar
  rw [show narrow .boolean (.int 1) = .int 1 from lw_bz_n 1]
def rx_I (e rc : Nat) (xk ir re : Nat → Int32) (ql : Nat → Nat) : Prop :=
  (∀ i, i < rc → re i = nI (ql i) ∧ ql i < e ∧ xk (ql i) ≠ -1) ∧ (∀ i i', i < rc → i' < rc → ql i = ql i' → i = i') ∧
  ∀ c, c < 492 → (ir c = 0 ∧ ∀ i, i < rc → ql i ≠ c) ∨ (ir c = 1 ∧ ∃ i, i < rc ∧ ql i = c)
theorem rx_le {e rc : Nat} {ql : Nat → Nat} (h1 : ∀ i, i < rc → ql i < e) (h2 : ∀ i i', i < rc → i' < rc → ql i = ql i' → i = i') : rc ≤ e := by
  have r := cn_rel (R := fun i j => ql i = j) (p := fun _ => true) (m := e) rc (fun _ => true) (fun i hi _ => ⟨ql i, h1 i hi, rfl, rfl⟩) (fun i i' j hi hi' _ _ r1 r2 => h2 i i' hi hi' (r1.trans r2.symm))
  rw [cn_all, cn_all] at r
  exact r
section
variable {fc fs fl fr : Int32} {ak aw ir re : Nat → Int32}
theorem rx_fg {post : SX → Prop} {fe : Int32} {xk xw : Nat → Int32} (H : ∀ ir', (∀ c, c < 492 → ir' c = 0) → post (fc, fe, fs, fl, 0, ak, aw, xk, xw, ir', re)) : wpX_forgetReached post (fc, fe, fs, fl, fr, ak, aw, xk, xw, ir, re) := by
  have key : ∀ d i ir, i + d = 492 → (∀ p, p < i → ir p = 0) → wX_forgetReached_7 post fc fe fs fl 0 (d + 1) (nI i) ak aw xk xw ir re := by
    intro d
    induction d with
    | zero =>
      intro i ir hi hq
      exact br_t (nI_le (a := 492) (by omega) (by omega)) (H ir (fun p hp => hq p (by omega)))
    | succ d ih =>
      intro i ir hi hq
      refine br_f (nI_ge (b := 492) (by omega) (by omega)) ?_
      rw [nI_clamp (show i < 2 ^ 31 by omega), rc_n0]
      refine ⟨vp_in_nI (by omega) (by omega), nm_e (nm_r (nI_1 i) (ih (i + 1) _ (by omega) (fun p hp => ?_)))⟩
      by_cases z : p = i
      · rw [z, pk_us]
      · rw [pk_un z]; exact hq p (by omega)
  exact ⟨_, key 492 0 ir (by omega) (fun p hp => by omega)⟩
theorem rx_rp {post : SX → Prop} {e : Nat} {xk xw : Nat → Int32} {x p rc : Nat} {ql : Nat → Nat} (he : e ≤ 492) (I : rx_I e rc xk ir re ql) (hp : p = x ∨ xl_E p ∨ (p / 3 < e ∧ xk (p / 3) ≠ -1)) (hpb : p < 1476)
    (H : ∀ rc' ql' ir' re', rx_I e rc' xk ir' re' ql' → rc ≤ rc' → (∀ i, i < rc → ql' i = ql i) → (p ≠ x → ¬ xl_E p → ∃ i, i < rc' ∧ ql' i = p / 3) → (∀ i, i < rc' → i < rc ∨ (ql' i = p / 3 ∧ p ≠ x ∧ ¬ xl_E p)) → post (fc, nI e, fs, fl, nI rc', ak, aw, xk, xw, ir', re')) :
    wpX_reachPort post (fc, nI e, fs, fl, nI rc, ak, aw, xk, xw, ir, re) (md_fo x p) := by
  unfold wpX_reachPort
  dsimp only
  by_cases z : p = x
  · rw [z, md_fo_s]
    exact br_t rfl (H rc ql ir re I (Nat.le_refl _) (fun _ _ => rfl) (fun w => absurd z w) (fun i hi => Or.inl hi))
  · rw [md_fo_n z]
    refine br_f (xl_nm1 (by omega)) (xl_ie (by omega) ?_)
    by_cases pe : xl_E p
    · have pe' := pe
      unfold xl_E at pe'
      rw [if_pos pe']
      exact br_f (by decide) (H rc ql ir re I (Nat.le_refl _) (fun _ _ => rfl) (fun _ w => absurd pe w) (fun i hi => Or.inl hi))
    · have pe' : ¬ (30 ≤ p ∧ p ≤ 33) := pe
      rw [if_neg pe', xl_dv (by omega)]
      have hc : p / 3 < e ∧ xk (p / 3) ≠ -1 := by
        rcases hp with w | w | w
        · exact absurd w z
        · exact absurd w pe
        · exact w
      refine br_t rfl ⟨by decide, nm_e ⟨vp_in_nI (by omega) (by omega), ?_⟩⟩
      rw [nI_clamp (show p / 3 < 2 ^ 31 by omega)]
      rcases I.2.2 (p / 3) (by omega) with ⟨i0, ni⟩ | ⟨i1, ei⟩
      · have nI2 : ∀ i i', i < rc + 1 → i' < rc + 1 → (if i = rc then p / 3 else ql i) = (if i' = rc then p / 3 else ql i') → i = i' := by
          intro i i' hi hi' ee
          by_cases c1 : i = rc <;> by_cases c2 : i' = rc
          · omega
          · rw [if_pos c1, if_neg c2] at ee
            exact absurd ee.symm (ni i' (by omega))
          · rw [if_neg c1, if_pos c2] at ee
            exact absurd ee (ni i (by omega))
          · rw [if_neg c1, if_neg c2] at ee
            exact I.2.1 i i' (by omega) (by omega) ee
        have rl : rc + 1 ≤ e := by
          refine rx_le (ql := fun i => if i = rc then p / 3 else ql i) (fun i hi => ?_) nI2
          by_cases c1 : i = rc
          · rw [if_pos c1]; exact hc.1
          · rw [if_neg c1]; exact (I.1 i (by omega)).2.1
        rw [i0, nI_clamp (show rc < 2 ^ 31 by omega), rc_n1]
        refine br_t rfl ⟨vp_in_nI (by omega) (by omega), nm_e ⟨vp_in_nI (by omega) (by omega), nm_e (nm_r (nI_1 rc) (H (rc + 1) (fun i => if i = rc then p / 3 else ql i) _ _ ⟨fun i hi => ?_, nI2, fun c hc' => ?_⟩ (by omega) (fun i hi => ?_) (fun _ _ => ⟨rc, by omega, ?_⟩) (fun i hi => ?_)))⟩⟩
        · dsimp only
          by_cases c1 : i = rc
          · rw [if_pos c1, c1, pk_us]; exact ⟨rfl, hc⟩
          · rw [if_neg c1, pk_un c1]; exact I.1 i (by omega)
        · by_cases c1 : c = p / 3
          · right
            rw [c1, pk_us]
            exact ⟨rfl, rc, by omega, by dsimp only; rw [if_pos rfl]⟩
          · rw [pk_un c1]
            rcases I.2.2 c hc' with ⟨q1, q2⟩ | ⟨q1, i, q2, q3⟩
            · left
              refine ⟨q1, fun i hi => ?_⟩
              dsimp only
              by_cases c2 : i = rc
              · rw [if_pos c2]; exact fun w => c1 w.symm
              · rw [if_neg c2]; exact q2 i (by omega)
            · right
              refine ⟨q1, i, by omega, ?_⟩
              dsimp only
              rw [if_neg (by omega)]
              exact q3
        · rw [if_neg (by omega)]
        · rw [if_pos rfl]
        · by_cases c1 : i = rc
          · right
            rw [if_pos c1]
            exact ⟨rfl, z, pe⟩
          · left; omega
      · rw [i1]
        exact br_f (by decide) (H rc ql ir re I (Nat.le_refl _) (fun _ _ => rfl) (fun _ _ => ei) (fun i hi => Or.inl hi))
end
/-- what the queue's far ports are -/
theorem rx_far {n : Nat} {N : fz_N} {e l : Nat} {xk xw : Nat → Int32} {hx gx : Nat → Nat} (RX : xl_R n N e l xk xw hx gx) (hn : n ≤ 120) {c s : Nat} (hc : c < e) (lc : xk c ≠ -1) (hs : s < 3) :
    (hx (md_p 0 c s) = md_p 0 c s ∨ xl_E (hx (md_p 0 c s)) ∨ (hx (md_p 0 c s) / 3 < e ∧ xk (hx (md_p 0 c s) / 3) ≠ -1)) ∧ hx (md_p 0 c s) < 1476 := by
  have e4 := RX.2.2.2.2
  refine ⟨?_, xl_Rb RX hn _ (xl_pb (by omega) hs)⟩
  have r6 := RX.1.2.2.2.2.2.2.2
  by_cases d : md_D 0 xl_E (md_v e xk) (md_p 0 c s)
  · have q := md_DB e 0 xk _ (r6.1 _ d).1
    rw [Nat.sub_zero] at q
    rcases q with q | ⟨_, q | q⟩
    · exact Or.inr (Or.inl q)
    · exact Or.inr (Or.inr q)
    · omega
  · exact Or.inl (r6.2 _ d)
theorem rx_farE {n : Nat} {N : fz_N} {e l : Nat} {xk xw : Nat → Int32} {hx gx : Nat → Nat} (RX : xl_R n N e l xk xw hx gx) (hn : n ≤ 120) {j : Nat} (hj : j < 4) :
    (hx (30 + j) = 30 + j ∨ xl_E (hx (30 + j)) ∨ (hx (30 + j) / 3 < e ∧ xk (hx (30 + j) / 3) ≠ -1)) ∧ hx (30 + j) < 1476 := by
  have e4 := RX.2.2.2.2
  refine ⟨?_, xl_Rb RX hn _ (by omega)⟩
  have r6 := RX.1.2.2.2.2.2.2.2
  have d : md_D 0 xl_E (md_v e xk) (30 + j) := Or.inl ⟨by omega, by omega⟩
  have q := md_DB e 0 xk _ (r6.1 _ d).1
  rw [Nat.sub_zero] at q
  rcases q with q | ⟨_, q | q⟩
  · exact Or.inr (Or.inl q)
  · exact Or.inr (Or.inr q)
  · omega
/-- a far port that is a cell's, in the net -/
theorem rx_net {n : Nat} {N : fz_N} {e l : Nat} {xk xw : Nat → Int32} {hx gx : Nat → Nat} (RX : xl_R n N e l xk xw hx gx) {x : Nat} (dx : md_D 0 xl_E (md_v e xk) x) (h1 : ¬ xl_E (hx x)) : N.2.1 (md_P 0 xl_U gx x) = 6 * gx (hx x / 3) + hx x % 3 ∧ hx x % 3 < md_pk (N.1 (gx (hx x / 3))) := by
  have r6 := RX.1.2.2.2.2.2.2.2
  have q := r6.1 _ dx
  have cx : hx x % 3 < md_v e xk (hx x / 3) := by
    rcases q.1 with w | ⟨_, w⟩
    · exact absurd w h1
    · rw [Nat.sub_zero] at w; exact w
  have l : hx x / 3 < e := by
    by_cases c : hx x / 3 < e
    · exact c
    · unfold md_v at cx
      rw [if_neg c] at cx
      omega
  have k : xk (hx x / 3) ≠ -1 := by
    intro z
    unfold md_v at cx
    rw [if_pos l, z, md_pk_m] at cx
    omega
  refine ⟨?_, ?_⟩
  · rw [q.2]
    unfold md_P
    rw [if_pos (Nat.zero_le _), Nat.sub_zero]
  · rw [RX.1.2.2.1 _ l k]
    unfold md_v at cx
    rw [if_pos l] at cx
    exact cx
/-- a cell's port in the net, back in the component -/
theorem rx_back {n : Nat} {N : fz_N} {e l : Nat} {xk xw : Nat → Int32} {hx gx : Nat → Nat} (RX : xl_R n N e l xk xw hx gx) {x b t : Nat} (dx : md_D 0 xl_E (md_v e xk) x) (ht : t < md_pk (N.1 b)) (ew : N.2.1 (md_P 0 xl_U gx x) = 6 * b + t) : ∃ c, c < e ∧ xk c ≠ -1 ∧ gx c = b ∧ hx x = md_p 0 c t ∧ t < 3 := by
  have t3 : t < 3 := by
    have := md_pk_3 (N.1 b)
    omega
  have lb : N.1 b ≠ -1 := by
    intro z
    rw [z, md_pk_m] at ht
    omega
  obtain ⟨c, h1, h2, h3⟩ := RX.1.2.2.2.1 b lb
  have r6 := RX.1.2.2.2.2.2.2.2
  have q := r6.1 _ dx
  refine ⟨c, h1, h2, h3, ?_, t3⟩
  refine wk_inj RX.1 q.1 (md_Dp ?_ t3) ?_
  · unfold md_v
    rw [if_pos h1, ← RX.1.2.2.1 c h1 h2, h3]
    exact ht
  · rw [← q.2, ew, md_Pp t3, h3]
def rx_V (gx : Nat → Nat) (rc : Nat) (ql : Nat → Nat) (a : Nat) : Prop := ∃ i, i < rc ∧ gx (ql i) = a
def rx_C (hx : Nat → Nat) (rc : Nat) (ql : Nat → Nat) (x : Nat) : Prop := hx x ≠ x → ¬ xl_E (hx x) → ∃ i, i < rc ∧ ql i = hx x / 3
def rx_S (N : fz_N) (j : Nat) (gx : Nat → Nat) (rc : Nat) (ql : Nat → Nat) : Prop := ∀ S, rc_cl N S → rc_st N j S → ∀ i, i < rc → S (gx (ql i))
theorem rx_Cm {hx : Nat → Nat} {rc rc' : Nat} {ql ql' : Nat → Nat} {x : Nat} (h : rx_C hx rc ql x) (h1 : rc ≤ rc') (h2 : ∀ i, i < rc → ql' i = ql i) : rx_C hx rc' ql' x := by
  intro a b
  obtain ⟨i, hi, e⟩ := h a b
  exact ⟨i, by omega, by rw [h2 i hi, e]⟩
/-- a new cell of the queue is in every closed set -/
theorem rx_Sm {n : Nat} {N : fz_N} {e l : Nat} {xk xw : Nat → Int32} {hx gx : Nat → Nat} (RX : xl_R n N e l xk xw hx gx) {j rc rc' c s : Nat} {ql ql' : Nat → Nat} (h : rx_S N j gx rc ql) (hc : c < e) (lc : xk c ≠ -1) (inq : ∃ i, i < rc ∧ ql i = c) (h2 : ∀ i, i < rc → ql' i = ql i)
    (h3 : ∀ i, i < rc' → i < rc ∨ (ql' i = hx (md_p 0 c s) / 3 ∧ hx (md_p 0 c s) ≠ md_p 0 c s ∧ ¬ xl_E (hx (md_p 0 c s)))) (hs : s < 3) : rx_S N j gx rc' ql' := by
  intro S s1 s2 i hi
  rcases h3 i hi with w | ⟨w1, w2, w3⟩
  · rw [h2 i w]
    exact h S s1 s2 i w
  · obtain ⟨i0, hi0, e0⟩ := inq
    have sc : S (gx c) := e0 ▸ h S s1 s2 i0 hi0
    have r6 := RX.1.2.2.2.2.2.2.2
    have d : md_D 0 xl_E (md_v e xk) (md_p 0 c s) := by
      by_cases d : md_D 0 xl_E (md_v e xk) (md_p 0 c s)
      · exact d
      · exact absurd (r6.2 _ d) w2
    have q := rx_net RX d w3
    rw [md_Pp hs] at q
    have nE : ¬ xl_E (md_p 0 c s) := by
      intro z
      have := ((RX.1.2.2.2.2.2.1 _ z).1 (Nat.zero_le _)).2
      rw [md_pd hs] at this
      exact lc this
    have sv := (md_Di nE hs).mp d
    unfold md_v at sv
    rw [if_pos hc, ← RX.1.2.2.1 c hc lc] at sv
    rw [w1]
    exact s1 _ _ _ _ sv q.2 q.1 sc
section
variable {fc fs fl : Int32} {ak aw : Nat → Int32}
theorem rx_lp {post : Int32 → SX → Prop} {n : Nat} {N : fz_N} {e l : Nat} {xk xw : Nat → Int32} {hx gx : Nat → Nat} (RX : xl_R n N e l xk xw hx gx) (hn : n ≤ 120) {j : Nat}
    (H : ∀ rc ql ir re, rx_I e rc xk ir re ql → rx_C hx rc ql (30 + j) → (∀ i s, i < rc → s < 3 → rx_C hx rc ql (md_p 0 (ql i) s)) → rx_S N j gx rc ql → post (nI rc) (fc, nI e, fs, fl, nI rc, ak, aw, xk, xw, ir, re)) :
    ∀ d i rc ql ir re, i + d = 492 → rx_I e rc xk ir re ql → rx_C hx rc ql (30 + j) → (∀ i' s, i' < i → i' < rc → s < 3 → rx_C hx rc ql (md_p 0 (ql i') s)) → rx_S N j gx rc ql → wX_reach_38 post (d + 1) (nI i) fc (nI e) fs fl (nI rc) ak aw xk xw ir re := by
  have e4 := RX.2.2.2.2
  intro d
  induction d with
  | zero =>
    intro i rc ql ir re hi I st cl sd
    have rl := rx_le (fun i hi => (I.1 i hi).2.1) I.2.1
    exact br_t (nI_le (a := 492) (by omega) (by omega)) (H rc ql ir re I st (fun i' s h1 h2 => cl i' s (by omega) h1 h2) sd)
  | succ d ih =>
    intro i rc ql ir re hi I st cl sd
    have rl := rx_le (fun i hi => (I.1 i hi).2.1) I.2.1
    refine br_f (nI_ge (b := 492) (by omega) (by omega)) ?_
    by_cases z : rc ≤ i
    · exact br_t (nI_le z (by omega)) (H rc ql ir re I st (fun i' s h1 h2 => cl i' s (by omega) h1 h2) sd)
    · have a := I.1 i (by omega)
      rw [nI_clamp (show i < 2 ^ 31 by omega), a.1]
      refine br_f (nI_ge (by omega) (by omega)) ⟨vp_in_nI (by omega) (by omega), nm_e ?_⟩
      have inq0 : ∃ i', i' < rc ∧ ql i' = ql i := ⟨i, by omega, rfl⟩
      rw [xl_q1, xl_q2, xl_q0]
      obtain ⟨c, ec⟩ : ∃ c, c = ql i := ⟨_, rfl⟩
      rw [← ec] at a inq0 ⊢
      have pb0 : md_p 0 c 0 < 1476 := xl_pb (by omega) (by omega)
      have pb1 : md_p 0 c 1 < 1476 := xl_pb (by omega) (by omega)
      have pb2 : md_p 0 c 2 < 1476 := xl_pb (by omega) (by omega)
      rw [nI_clamp (show md_p 0 c 0 < 2 ^ 31 by omega), RX.2.1 _ pb0]
      refine ⟨vp_in_nI pb0 (by omega), ?_⟩
      have f0 := rx_far RX hn (s := 0) a.2.1 a.2.2 (by omega)
      have f1 := rx_far RX hn (s := 1) a.2.1 a.2.2 (by omega)
      have f2 := rx_far RX hn (s := 2) a.2.1 a.2.2 (by omega)
      refine rx_rp (by omega) I f0.1 f0.2 (fun rc1 ql1 ir1 re1 I1 l1 q1 c1 n1 => ?_)
      dsimp only
      rw [nI_clamp (show md_p 0 c 1 < 2 ^ 31 by omega), RX.2.1 _ pb1]
      refine ⟨vp_in_nI pb1 (by omega), ?_⟩
      have inq1 : ∃ i', i' < rc1 ∧ ql1 i' = c := ⟨i, by omega, by rw [q1 i (by omega), ec]⟩
      have sd1 := rx_Sm RX sd a.2.1 a.2.2 inq0 q1 n1 (by omega)
      refine rx_rp (by omega) I1 f1.1 f1.2 (fun rc2 ql2 ir2 re2 I2 l2 q2 c2 n2 => ?_)
      dsimp only
      rw [nI_clamp (show md_p 0 c 2 < 2 ^ 31 by omega), RX.2.1 _ pb2]
      refine ⟨vp_in_nI pb2 (by omega), ?_⟩
      have inq2 : ∃ i', i' < rc2 ∧ ql2 i' = c := ⟨i, by omega, by rw [q2 i (by omega), q1 i (by omega), ec]⟩
      have sd2 := rx_Sm RX sd1 a.2.1 a.2.2 inq1 q2 n2 (by omega)
      refine rx_rp (by omega) I2 f2.1 f2.2 (fun rc3 ql3 ir3 re3 I3 l3 q3 c3 n3 => ?_)
      dsimp only
      have sd3 := rx_Sm RX sd2 a.2.1 a.2.2 inq2 q3 n3 (by omega)
      have q13 : ∀ i', i' < rc → ql3 i' = ql i' := fun i' h => by rw [q3 i' (by omega), q2 i' (by omega), q1 i' h]
      refine nm_r (nI_1 i) (ih (i + 1) rc3 ql3 ir3 re3 (by omega) I3 (rx_Cm st (by omega) q13) (fun i' s h1 h2 h3 => ?_) sd3)
      by_cases ei : i' = i
      · rw [ei, q13 i (by omega), ← ec]
        have s3 : s = 0 ∨ s = 1 ∨ s = 2 := by omega
        rcases s3 with rfl | rfl | rfl
        · exact rx_Cm (rx_Cm (rc := rc1) (ql := ql1) c1 l2 q2) l3 q3
        · exact rx_Cm (rc := rc2) (ql := ql2) c2 l3 q3
        · exact c3
      · rw [q13 i' (by omega)]
        exact rx_Cm (cl i' s (by omega) (by omega) h3) (by omega) q13
/-- the component's reach, from a net at rest -/
theorem rx_all {post : Int32 → SX → Prop} {n : Nat} {N : fz_N} {e l : Nat} {xk xw : Nat → Int32} {hx gx : Nat → Nat} (RX : xl_R n N e l xk xw hx gx) (hn : n ≤ 120) {j : Nat} (hj : j < 4) {fr : Int32} {ir re : Nat → Int32}
    (H : ∀ rc ql ir re, rc ≤ e → (∀ i, i < rc → ql i < e ∧ xk (ql i) ≠ -1) → (∀ i i', i < rc → i' < rc → ql i = ql i' → i = i') → rc_cl N (rx_V gx rc ql) → rc_st N j (rx_V gx rc ql) → rx_S N j gx rc ql → post (nI rc) (fc, nI e, fs, fl, nI rc, ak, aw, xk, xw, ir, re)) :
    wpX_forgetReached (fun u => (vp_in (nI (30 + j)) 1476 ∧ wpX_reachPort (fun u => ∃ n38 : Nat, wX_reach_38 post n38 0 u.1 u.2.1 u.2.2.1 u.2.2.2.1 u.2.2.2.2.1 u.2.2.2.2.2.1 u.2.2.2.2.2.2.1 u.2.2.2.2.2.2.2.1 u.2.2.2.2.2.2.2.2.1 u.2.2.2.2.2.2.2.2.2.1 u.2.2.2.2.2.2.2.2.2.2)
      (u.1, u.2.1, u.2.2.1, u.2.2.2.1, u.2.2.2.2.1, u.2.2.2.2.2.1, u.2.2.2.2.2.2.1, u.2.2.2.2.2.2.2.1, u.2.2.2.2.2.2.2.2.1, u.2.2.2.2.2.2.2.2.2.1, u.2.2.2.2.2.2.2.2.2.2) (u.2.2.2.2.2.2.2.2.1 (nI (30 + j)).toNatClampNeg))) (fc, nI e, fs, fl, fr, ak, aw, xk, xw, ir, re) := by
  have e4 := RX.2.2.2.2
  refine rx_fg (fun ir0 h0 => ?_)
  dsimp only
  rw [nI_clamp (by omega), RX.2.1 _ (by omega)]
  refine ⟨vp_in_nI (by omega) (by omega), ?_⟩
  have f0 := rx_farE RX hn hj
  have dE : md_D 0 xl_E (md_v e xk) (30 + j) := Or.inl ⟨by omega, by omega⟩
  have eE : xl_E (30 + j) := ⟨by omega, by omega⟩
  have PE : md_P 0 xl_U gx (30 + j) = yl_U j := by
    rw [(RX.1.2.2.2.2.2.1 _ eE).2.2.2]
    unfold xl_U yl_U
    split <;> omega
  have I0 : rx_I e 0 xk ir0 re (fun _ => 0) := ⟨fun i hi => by omega, fun i i' hi => by omega, fun c hc => Or.inl ⟨h0 c hc, fun i hi => by omega⟩⟩
  refine rx_rp (rc := 0) (by omega) I0 f0.1 f0.2 (fun rc1 ql1 ir1 re1 I1 l1 q1 c1 n1 => ?_)
  dsimp only
  refine ⟨493, ?_⟩
  refine rx_lp RX hn (j := j) (fun rc ql ir re I st cl sd => ?_) 492 0 rc1 ql1 ir1 re1 (by omega) I1 c1 (fun i' s h => by omega) (fun S s1 s2 i hi => ?_)
  · refine H rc ql ir re (rx_le (fun i hi => (I.1 i hi).2.1) I.2.1) (fun i hi => (I.1 i hi).2) I.2.1 ?_ ?_ sd
    · intro a s b t hs ht ew va
      obtain ⟨i, hi, ea⟩ := va
      have li := (I.1 i hi).2
      have s3 : s < 3 := by
        have := md_pk_3 (N.1 a)
        omega
      have D : md_D 0 xl_E (md_v e xk) (md_p 0 (ql i) s) := by
        refine md_Dp ?_ s3
        unfold md_v
        rw [if_pos li.1, ← RX.1.2.2.1 _ li.1 li.2, ea]
        exact hs
      obtain ⟨c, h1, h2, h3, h4, t3⟩ := rx_back RX D ht (by rw [md_Pp s3, ea]; exact ew)
      by_cases own : hx (md_p 0 (ql i) s) = md_p 0 (ql i) s
      · rw [own] at h4
        have := ((md_pe s3 t3).mp h4).1
        exact ⟨i, hi, by rw [this]; exact h3⟩
      · have nE : ¬ xl_E (hx (md_p 0 (ql i) s)) := by
          intro z
          rw [h4] at z
          have := ((RX.1.2.2.2.2.2.1 _ z).1 (Nat.zero_le _)).2
          rw [md_pd t3] at this
          exact h2 this
        obtain ⟨i2, hi2, e2⟩ := cl i s hi s3 own nE
        refine ⟨i2, hi2, ?_⟩
        rw [e2, h4, show md_p 0 c t / 3 = c by unfold md_p; omega]
        exact h3
    · intro b t ht ew
      obtain ⟨c, h1, h2, h3, h4, t3⟩ := rx_back RX dE ht (by rw [PE]; exact ew)
      have nE : ¬ xl_E (hx (30 + j)) := by
        intro z
        rw [h4] at z
        have := ((RX.1.2.2.2.2.2.1 _ z).1 (Nat.zero_le _)).2
        rw [md_pd t3] at this
        exact h2 this
      obtain ⟨i2, hi2, e2⟩ := st (fun z => nE (by rw [z]; exact eE)) nE
      refine ⟨i2, hi2, ?_⟩
      rw [e2, h4, show md_p 0 c t / 3 = c by unfold md_p; omega]
      exact h3
  · rcases n1 i hi with w | ⟨w1, w2, w3⟩
    · omega
    · have q := rx_net RX dE w3
      rw [PE] at q
      rw [w1]
      exact s2 _ _ q.2 q.1
end
end
section
/-! reach: the reference's marks -/
theorem cn_mo {p q : Nat → Bool} : ∀ n, (∀ i, i < n → p i = true → q i = true) → cn_c p n ≤ cn_c q n
  | 0, _ => Nat.le_refl 0
  | n + 1, h => by
    have r := cn_mo (p := p) (q := q) n (fun i hi => h i (by omega))
    have hn := h n (by omega)
    show cn_c p n + _ ≤ cn_c q n + _
    by_cases c : p n = true
    · rw [if_pos c, if_pos (hn c)]; omega
    · rw [if_neg c]; omega
theorem cn_sl {p q : Nat → Bool} : ∀ n, (∀ i, i < n → p i = true → q i = true) → (∃ i, i < n ∧ q i = true ∧ p i = false) → cn_c p n < cn_c q n
  | 0, _, ⟨i, hi, _⟩ => absurd hi (Nat.not_lt_zero _)
  | n + 1, h, ⟨i, hi, q1, p0⟩ => by
    show cn_c p n + _ < cn_c q n + _
    have hn := h n (by omega)
    by_cases c : i = n
    · subst c
      have r := cn_mo (p := p) (q := q) i (fun j hj => h j (by omega))
      rw [if_pos q1, if_neg (by rw [p0]; decide)]
      omega
    · have r := cn_sl (p := p) (q := q) n (fun j hj => h j (by omega)) ⟨i, by omega, q1, p0⟩
      by_cases d : p n = true
      · rw [if_pos d, if_pos (hn d)]; omega
      · rw [if_neg d]; omega
def rq_M (e : Nat) (mt : Nat → Int32) (M : Nat → Bool) : Prop := ∀ c, c < e → mt c = if M c = true then 1 else 0
def rq_m (M : Nat → Bool) (c d x : Nat) : Bool := if x = c ∨ x = d then (M c || M d) else M x
theorem rq_mle {M : Nat → Bool} {c d : Nat} (x : Nat) (h : M x = true) : rq_m M c d x = true := by
  unfold rq_m
  split
  · rename_i z
    rcases z with z | z
    · rw [← z, h]; rfl
    · rw [← z, h]; exact Bool.or_true _
  · exact h
theorem rq_meq {M : Nat → Bool} {c d : Nat} (h : M c = M d) (x : Nat) : rq_m M c d x = M x := by
  unfold rq_m
  split
  · rename_i z
    rcases z with z | z
    · rw [z, ← h, Bool.or_self]
    · rw [z, h, Bool.or_self]
  · rfl
section
variable {gc gw gl gs : Int32} {bk bf bs rk rf rs mt : Nat → Int32} {e m : Nat}
theorem rq_80 {post : Int32 → SY → Prop} {J : Int32 → Int32 → (Nat → Int32) → (Nat → Int32) → (Nat → Int32) → (Nat → Int32) → (Nat → Int32) → (Nat → Int32) → (Nat → Int32) → Prop} {i c d : Nat} {M : Nat → Bool} {z0 : Int32} (he : e ≤ 500) (hc : c < e) (hd : d < e) (W : rq_M e mt M)
    (H : ∀ mt', rq_M e mt' (rq_m M c d) → J z0 (nI (i + 1)) bk bf bs rk rf rs mt') : wY_spread_80 post J (nI i) (nI c) (nI d) z0 gc gw (nI e) (nI m) gl gs bk bf bs rk rf rs mt := by
  have fin : ∀ (z : Int32), vp_nar .boolean z = z → z = (if (M c || M d) = true then 1 else 0) → wY_spread_105 post J z0 (nI i) (nI c) (nI d) z gc gw (nI e) (nI m) gl gs bk bf bs rk rf rs mt := by
    intro z ez hz
    unfold wY_spread_105
    rw [nI_clamp (show c < 2 ^ 31 by omega), nI_clamp (show d < 2 ^ 31 by omega), ez]
    refine ⟨vp_in_nI (by omega) (by omega), nm_e ⟨vp_in_nI (by omega) (by omega), nm_e (nm_r (nI_1 i) (H _ (fun x hx => ?_)))⟩⟩
    unfold rq_m
    by_cases x2 : x = d
    · rw [x2, pk_us, if_pos (Or.inr rfl)]; exact hz
    · rw [pk_un x2]
      by_cases x1 : x = c
      · rw [x1, pk_us, if_pos (Or.inl rfl)]; exact hz
      · have nx : ¬ (x = c ∨ x = d) := fun w => w.elim x1 x2
        rw [pk_un x1, if_neg nx]
        exact W x hx
  unfold wY_spread_80
  rw [nI_clamp (show c < 2 ^ 31 by omega), nI_clamp (show d < 2 ^ 31 by omega), W c hc, W d hd]
  refine ⟨vp_in_nI (by omega) (by omega), ?_⟩
  by_cases mc : M c = true
  · rw [if_pos mc]
    refine br_f (by decide) ?_
    unfold wY_spread_100
    exact fin 1 rc_n1 (by rw [mc]; rfl)
  · have mc' : M c = false := by
      cases h : M c
      · rfl
      · exact absurd h mc
    rw [if_neg mc]
    refine br_t rfl ⟨vp_in_nI (by omega) (by omega), ?_⟩
    by_cases md : M d = true
    · rw [if_pos md]
      refine br_f (by decide) ?_
      unfold wY_spread_100
      exact fin 1 rc_n1 (by rw [mc', md]; rfl)
    · have md' : M d = false := by
        cases h : M d
        · rfl
        · exact absurd h md
      rw [if_neg md]
      exact br_t rfl (fin 0 rc_n0 (by rw [mc', md']; rfl))
/-- one pass over the wires; Q holds of the marks at its beginning and is kept by a wire -/
theorem rq_sp {post : Int32 → SY → Prop} {f s h : Nat → Nat} {M0 : Nat → Bool} {Q : (Nat → Bool) → Prop} (he : e ≤ 500) (hm : m ≤ 520) (A : yl_A m rf rs f s) (G : yl_G m f s h) (W : rq_M e mt M0) (q0 : Q M0)
    (cell : ∀ i, i < m → 4 ≤ f i → 4 ≤ s i → (f i - 4) / 3 < e ∧ (s i - 4) / 3 < e) (kp : ∀ M i, i < m → 4 ≤ f i → 4 ≤ s i → Q M → Q (rq_m M ((f i - 4) / 3) ((s i - 4) / 3)))
    (h0 : ∀ mt', rq_M e mt' M0 → (∀ i, i < m → 4 ≤ f i → 4 ≤ s i → M0 ((f i - 4) / 3) = M0 ((s i - 4) / 3)) → post 0 (gc, gw, nI e, nI m, gl, gs, bk, bf, bs, rk, rf, rs, mt'))
    (h1 : ∀ M mt', rq_M e mt' M → Q M → cn_c M0 e < cn_c M e → post 1 (gc, gw, nI e, nI m, gl, gs, bk, bf, bs, rk, rf, rs, mt')) : wpY_spread post (gc, gw, nI e, nI m, gl, gs, bk, bf, bs, rk, rf, rs, mt) := by
  have key : ∀ d i (b : Int32) M mt, i + d = m → rq_M e mt M → Q M → ((b = 0 ∧ (∀ c, c < e → M c = M0 c) ∧ ∀ j, j < i → 4 ≤ f j → 4 ≤ s j → M0 ((f j - 4) / 3) = M0 ((s j - 4) / 3)) ∨ (b = 1 ∧ cn_c M0 e < cn_c M e)) →
      wY_spread_4 post gc gw (nI e) (nI m) gl gs (d + 1) b (nI i) bk bf bs rk rf rs mt := by
    intro d
    induction d with
    | zero =>
      intro i b M mt hi W q hb
      refine br_t (nI_le (by omega) (by omega)) ?_
      rcases hb with ⟨b0, b1, b2⟩ | ⟨b0, b1⟩
      · rw [b0]
        refine ⟨lw_bz_n 0, h0 mt (fun c hc => ?_) (fun j hj => b2 j (by omega))⟩
        rw [W c hc, b1 c hc]
      · rw [b0]
        exact ⟨lw_bz_n 1, h1 M mt W q b1⟩
    | succ d ih =>
      intro i b M mt hi W q hb
      have a := A i (by omega)
      have g := G.1 i (by omega)
      refine br_f (nI_ge (by omega) (by omega)) ⟨vp_in_nI (by omega) (by omega), ?_⟩
      rw [nI_clamp (show i < 2 ^ 31 by omega), a.1, a.2]
      have skip : (f i < 4 ∨ s i < 4) → wY_spread_4 post gc gw (nI e) (nI m) gl gs (d + 1) b (nI (i + 1)) bk bf bs rk rf rs mt := by
        intro z
        refine ih (i + 1) b M mt (by omega) W q ?_
        rcases hb with ⟨b0, b1, b2⟩ | hb
        · left
          refine ⟨b0, b1, fun j hj h4 h5 => ?_⟩
          by_cases ej : j = i
          · subst ej; omega
          · exact b2 j (by omega) h4 h5
        · exact Or.inr hb
      by_cases f4 : f i < 4
      · exact br_t (nI_le (b := 3) (by omega) (by omega)) (nm_r (nI_1 i) (skip (Or.inl f4)))
      · refine br_f (nI_ge (a := 3) (by omega) (by omega)) ⟨vp_in_nI (by omega) (by omega), ?_⟩
        by_cases s4 : s i < 4
        · exact br_t (nI_le (b := 3) (by omega) (by omega)) (nm_r (nI_1 i) (skip (Or.inr s4)))
        · have cl := cell i (by omega) (by omega) (by omega)
          rw [show nI (f i) - 4 = nI (f i - 4) from pk_sub (b := 4) (by omega), show nI (s i) - 4 = nI (s i - 4) from pk_sub (b := 4) (by omega), xl_dv (by omega), xl_dv (by omega)]
          refine br_f (nI_ge (a := 3) (by omega) (by omega)) ⟨vp_in_nI (by omega) (by omega), by decide, nm_e ⟨vp_in_nI (by omega) (by omega), by decide, nm_e ?_⟩⟩
          have q' := kp M i (by omega) (by omega) (by omega) q
          have go1 : cn_c M0 e < cn_c (rq_m M ((f i - 4) / 3) ((s i - 4) / 3)) e → wY_spread_75 post (wY_spread_4 post gc gw (nI e) (nI m) gl gs (d + 1)) (nI i) (nI ((f i - 4) / 3)) (nI ((s i - 4) / 3)) gc gw (nI e) (nI m) gl gs bk bf bs rk rf rs mt := by
            intro lt
            unfold wY_spread_75
            exact rq_80 he cl.1 cl.2 W (fun mt' W' => ih (i + 1) 1 _ mt' (by omega) W' q' (Or.inr ⟨rfl, lt⟩))
          have mono : ∀ x, x < e → M x = true → rq_m M ((f i - 4) / 3) ((s i - 4) / 3) x = true := fun x _ hx => rq_mle x hx
          rcases hb with ⟨b0, b1, b2⟩ | ⟨b0, b1⟩
          · rw [b0]
            refine br_t rfl ⟨vp_in_nI (by omega) (by omega), vp_in_nI (by omega) (by omega), ?_⟩
            rw [nI_clamp (show (f i - 4) / 3 < 2 ^ 31 by omega), nI_clamp (show (s i - 4) / 3 < 2 ^ 31 by omega), W _ cl.1, W _ cl.2]
            by_cases em : M ((f i - 4) / 3) = M ((s i - 4) / 3)
            · refine br_t (by rw [em]) (rq_80 he cl.1 cl.2 W (fun mt' W' => ih (i + 1) 0 _ mt' (by omega) W' q' (Or.inl ⟨rfl, fun c hc => ?_, fun j hj h4 h5 => ?_⟩)))
              · rw [rq_meq em, b1 c hc]
              · by_cases ej : j = i
                · subst ej
                  rw [← b1 _ cl.1, ← b1 _ cl.2, em]
                · exact b2 j (by omega) h4 h5
            · have lt : cn_c M0 e < cn_c (rq_m M ((f i - 4) / 3) ((s i - 4) / 3)) e := by
                refine cn_sl e (fun x hx h => mono x hx (by rw [b1 x hx]; exact h)) ?_
                by_cases mf : M ((f i - 4) / 3) = true
                · refine ⟨(s i - 4) / 3, cl.2, ?_, ?_⟩
                  · unfold rq_m
                    rw [if_pos (Or.inr rfl), mf]; rfl
                  · rw [← b1 _ cl.2]
                    cases hh : M ((s i - 4) / 3)
                    · rfl
                    · rw [mf, hh] at em; exact absurd rfl em
                · have mf' : M ((f i - 4) / 3) = false := by
                    cases hh : M ((f i - 4) / 3)
                    · rfl
                    · exact absurd hh mf
                  refine ⟨(f i - 4) / 3, cl.1, ?_, ?_⟩
                  · unfold rq_m
                    rw [if_pos (Or.inl rfl), mf']
                    cases hh : M ((s i - 4) / 3)
                    · rw [mf', hh] at em; exact absurd rfl em
                    · rfl
                  · rw [← b1 _ cl.1]; exact mf'
              refine br_f (fun z => em ?_) (go1 lt)
              by_cases mf : M ((f i - 4) / 3) = true <;> by_cases ms : M ((s i - 4) / 3) = true
              · rw [mf, ms]
              · rw [if_pos mf, if_neg ms] at z
                exact absurd z (by decide)
              · rw [if_neg mf, if_pos ms] at z
                exact absurd z (by decide)
              · rw [Bool.not_eq_true] at mf ms
                rw [mf, ms]
          · rw [b0]
            exact br_f (by decide) (go1 (Nat.lt_of_lt_of_le b1 (cn_mo e mono)))
  exact ⟨_, key m 0 0 M0 mt (by omega) W q0 (Or.inl ⟨rfl, fun c hc => rfl, fun j hj => by omega⟩)⟩
theorem rq_88 {post : Int32 → SY → Prop} {M : Nat → Bool} (he : e ≤ 500) (W : rq_M e mt M) (H : post (nI (cn_c M e)) (gc, gw, nI e, nI m, gl, gs, bk, bf, bs, rk, rf, rs, mt)) : ∃ n88 : Nat, wY_reach_88 post gc gw (nI e) (nI m) gl gs bk bf bs rk rf rs mt n88 0 0 := by
  have key : ∀ d i, i + d = e → wY_reach_88 post gc gw (nI e) (nI m) gl gs bk bf bs rk rf rs mt (d + 1) (nI (cn_c M i)) (nI i) := by
    intro d
    induction d with
    | zero =>
      intro i hi
      have : i = e := by omega
      subst this
      exact br_t (nI_le (by omega) (by omega)) H
    | succ d ih =>
      intro i hi
      have nx := ih (i + 1) (by omega)
      refine br_f (nI_ge (by omega) (by omega)) ?_
      rw [nI_clamp (show i < 2 ^ 31 by omega), W i (by omega)]
      refine ⟨vp_in_nI (by omega) (by omega), ?_⟩
      by_cases z : M i = true
      · rw [cn_t z] at nx
        rw [if_pos z]
        exact br_f (by decide) (nm_r (nI_1 _) (nm_r (nI_1 i) nx))
      · rw [cn_f (Bool.not_eq_true _ ▸ z)] at nx
        rw [if_neg z]
        exact br_t rfl (nm_r (nI_1 i) nx)
  exact ⟨_, key e 0 (by omega)⟩
theorem rq_70 {post : Int32 → SY → Prop} {f s h : Nat → Nat} {Q : (Nat → Bool) → Prop} (he : e ≤ 500) (hm : m ≤ 520) (A : yl_A m rf rs f s) (G : yl_G m f s h)
    (cell : ∀ i, i < m → 4 ≤ f i → 4 ≤ s i → (f i - 4) / 3 < e ∧ (s i - 4) / 3 < e) (kp : ∀ M i, i < m → 4 ≤ f i → 4 ≤ s i → Q M → Q (rq_m M ((f i - 4) / 3) ((s i - 4) / 3)))
    (H : ∀ M mt', Q M → (∀ i, i < m → 4 ≤ f i → 4 ≤ s i → M ((f i - 4) / 3) = M ((s i - 4) / 3)) → post (nI (cn_c M e)) (gc, gw, nI e, nI m, gl, gs, bk, bf, bs, rk, rf, rs, mt')) :
    ∀ d M mt, e ≤ cn_c M e + d → rq_M e mt M → Q M → wY_reach_70 post (d + 1 + 1) 1 gc gw (nI e) (nI m) gl gs bk bf bs rk rf rs mt := by
  intro d
  induction d with
  | zero =>
    intro M mt hd W q
    refine br_f (by decide) ?_
    refine rq_sp he hm A G W q cell kp (fun mt' W' cl => ?_) (fun M' mt' W' q' lt => ?_)
    · exact br_t rfl (rq_88 he W' (H M mt' q cl))
    · have := cn_le M' e
      omega
  | succ d ih =>
    intro M mt hd W q
    refine br_f (by decide) ?_
    refine rq_sp he hm A G W q cell kp (fun mt' W' cl => ?_) (fun M' mt' W' q' lt => ?_)
    · exact br_t rfl (rq_88 he W' (H M mt' q cl))
    · exact ih M' mt' (by omega) W' q'
theorem rq_29 {post : Int32 → SY → Prop} {j q : Nat} (he : e ≤ 500) (hq : q < 2000)
    (H : ∀ mt', rq_M e mt' (fun c => decide (q ≠ j ∧ 4 ≤ q ∧ (q - 4) / 3 = c)) → ∃ n70 : Nat, wY_reach_70 post n70 1 gc gw (nI e) (nI m) gl gs bk bf bs rk rf rs mt') :
    ∃ n29 : Nat, wY_reach_29 post (md_fo j q) gc gw (nI e) (nI m) gl gs n29 0 bk bf bs rk rf rs mt := by
  have key : ∀ d i mt, i + d = e → (∀ c, c < i → mt c = if (fun c => decide (q ≠ j ∧ 4 ≤ q ∧ (q - 4) / 3 = c)) c = true then 1 else 0) → wY_reach_29 post (md_fo j q) gc gw (nI e) (nI m) gl gs (d + 1) (nI i) bk bf bs rk rf rs mt := by
    intro d
    induction d with
    | zero =>
      intro i mt hi hp
      exact br_t (nI_le (by omega) (by omega)) (H mt (fun c hc => hp c (by omega)))
    | succ d ih =>
      intro i mt hi hp
      refine br_f (nI_ge (by omega) (by omega)) ?_
      rw [nI_clamp (show i < 2 ^ 31 by omega), rc_n0, rc_n1]
      have stp : ∀ x : Int32, x = (if (fun c => decide (q ≠ j ∧ 4 ≤ q ∧ (q - 4) / 3 = c)) i = true then 1 else 0) → wY_reach_29 post (md_fo j q) gc gw (nI e) (nI m) gl gs (d + 1) (nI (i + 1)) bk bf bs rk rf rs (upd mt i x) := by
        intro x hx
        refine ih (i + 1) _ (by omega) (fun c hc => ?_)
        by_cases ci : c = i
        · rw [ci, pk_us, hx]
        · rw [pk_un ci]; exact hp c (by omega)
      have s0 : ¬ (q ≠ j ∧ 4 ≤ q ∧ (q - 4) / 3 = i) → (0 : Int32) = (if (fun c => decide (q ≠ j ∧ 4 ≤ q ∧ (q - 4) / 3 = c)) i = true then 1 else 0) := by
        intro z
        have z' : ¬ (fun c => decide (q ≠ j ∧ 4 ≤ q ∧ (q - 4) / 3 = c)) i = true := fun w => z (of_decide_eq_true w)
        rw [if_neg z']
      have s1 : (q ≠ j ∧ 4 ≤ q ∧ (q - 4) / 3 = i) → (1 : Int32) = (if (fun c => decide (q ≠ j ∧ 4 ≤ q ∧ (q - 4) / 3 = c)) i = true then 1 else 0) := by
        intro z
        have z' : (fun c => decide (q ≠ j ∧ 4 ≤ q ∧ (q - 4) / 3 = c)) i = true := decide_eq_true z
        rw [if_pos z']
      by_cases z : q = j
      · have t := stp 0 (s0 (fun w => w.1 z))
        rw [z, md_fo_s] at t ⊢
        exact br_t (by decide) ⟨vp_in_nI (by omega) (by omega), nm_e (nm_r (nI_1 i) t)⟩
      · rw [md_fo_n z] at stp ⊢
        by_cases q4 : 4 ≤ q
        · rw [show nI q - 4 = nI (q - 4) from pk_sub (b := 4) (by omega), xl_dv (by omega)]
          refine br_f (nI_ge (a := 3) (by omega) (by omega)) ⟨by decide, ?_⟩
          by_cases qi : (q - 4) / 3 = i
          · exact br_t (by rw [qi]) ⟨vp_in_nI (by omega) (by omega), nm_e (nm_r (nI_1 i) (stp 1 (s1 ⟨z, q4, qi⟩)))⟩
          · exact br_f (fun w => qi ((nI_eq (by omega) (by omega)).mp w)) ⟨vp_in_nI (by omega) (by omega), nm_e (nm_r (nI_1 i) (stp 0 (s0 (fun w => qi w.2.2))))⟩
        · exact br_t (nI_le (b := 3) (by omega) (by omega)) ⟨vp_in_nI (by omega) (by omega), nm_e (nm_r (nI_1 i) (stp 0 (s0 (fun w => q4 w.2.1))))⟩
  exact ⟨_, key e 0 mt (by omega) (fun c hc => by omega)⟩
end
def rq_V (gy : Nat → Nat) (e : Nat) (M : Nat → Bool) (a : Nat) : Prop := ∃ c, c < e ∧ M c = true ∧ gy c = a
/-- what a port of a wire is -/
theorem rq_port {n : Nat} {N : fz_N} {e l m : Nat} {rk rf rs : Nat → Int32} {hy gy : Nat → Nat} (RY : yl_R n N e l m rk rf rs hy gy) {p : Nat} (hp : hy p ≠ p) (p4 : 4 ≤ p) : md_D 4 yl_E (md_v e rk) p ∧ (p - 4) / 3 < e ∧ rk ((p - 4) / 3) ≠ -1 ∧ md_P 4 yl_U gy p = 6 * gy ((p - 4) / 3) + (p - 4) % 3 ∧ (p - 4) % 3 < md_pk (N.1 (gy ((p - 4) / 3))) := by
  have r6 := RY.1.2.2.2.2.2.2.2
  have d : md_D 4 yl_E (md_v e rk) p := by
    by_cases d : md_D 4 yl_E (md_v e rk) p
    · exact d
    · exact absurd (r6.2 _ d) hp
  have cx : (p - 4) % 3 < md_v e rk ((p - 4) / 3) := by
    rcases d with w | ⟨_, w⟩
    · unfold yl_E at w; omega
    · exact w
  have l : (p - 4) / 3 < e := by
    by_cases c : (p - 4) / 3 < e
    · exact c
    · unfold md_v at cx
      rw [if_neg c] at cx
      omega
  have k : rk ((p - 4) / 3) ≠ -1 := by
    intro z
    unfold md_v at cx
    rw [if_pos l, z, md_pk_m] at cx
    omega
  refine ⟨d, l, k, ?_, ?_⟩
  · unfold md_P
    rw [if_pos p4]
  · rw [RY.1.2.2.1 _ l k]
    unfold md_v at cx
    rw [if_pos l] at cx
    exact cx
theorem rq_back {n : Nat} {N : fz_N} {e l m : Nat} {rk rf rs : Nat → Int32} {hy gy : Nat → Nat} (RY : yl_R n N e l m rk rf rs hy gy) {x b t : Nat} (dx : md_D 4 yl_E (md_v e rk) x) (ht : t < md_pk (N.1 b)) (ew : N.2.1 (md_P 4 yl_U gy x) = 6 * b + t) : ∃ c, c < e ∧ rk c ≠ -1 ∧ gy c = b ∧ hy x = md_p 4 c t ∧ t < 3 := by
  have t3 : t < 3 := by
    have := md_pk_3 (N.1 b)
    omega
  have lb : N.1 b ≠ -1 := by
    intro z
    rw [z, md_pk_m] at ht
    omega
  obtain ⟨c, h1, h2, h3⟩ := RY.1.2.2.2.1 b lb
  have r6 := RY.1.2.2.2.2.2.2.2
  have q := r6.1 _ dx
  refine ⟨c, h1, h2, h3, ?_, t3⟩
  refine wk_inj RY.1 q.1 (md_Dp ?_ t3) ?_
  · unfold md_v
    rw [if_pos h1, ← RY.1.2.2.1 c h1 h2, h3]
    exact ht
  · rw [← q.2, ew, md_Pp t3, h3]
section
variable {gc gw gl gs : Int32} {bk bf bs mt : Nat → Int32}
/-- the reference's reach, from a net at rest -/
theorem rq_all {post : Int32 → SY → Prop} {n : Nat} {N : fz_N} {e l m : Nat} {rk rf rs : Nat → Int32} {hy gy : Nat → Nat} (RY : yl_R n N e l m rk rf rs hy gy) (hn : n ≤ 120) {j : Nat} (hj : j < 4)
    (H : ∀ M mt', (∀ c, c < e → M c = true → rk c ≠ -1) → rc_cl N (rq_V gy e M) → rc_st N j (rq_V gy e M) → (∀ S, rc_cl N S → rc_st N j S → ∀ c, c < e → M c = true → S (gy c)) → post (nI (cn_c M e)) (gc, gw, nI e, nI m, gl, gs, bk, bf, bs, rk, rf, rs, mt')) :
    ∃ n29 : Nat, wY_reach_29 post (md_fo j (hy j)) gc gw (nI e) (nI m) gl gs n29 0 bk bf bs rk rf rs mt := by
  have e4 := RY.2.2.2.1
  have m3 := RY.2.2.2.2
  obtain ⟨f, s, A, G⟩ := RY.2.1
  have eE : yl_E j := hj
  have dE : md_D 4 yl_E (md_v e rk) j := Or.inl eE
  have PE : md_P 4 yl_U gy j = yl_U j := (RY.1.2.2.2.2.2.1 _ eE).2.2.2
  have hb := yl_Rb RY hn j (by omega)
  have r6 := RY.1.2.2.2.2.2.2.2
  have wf : ∀ i, i < m → 4 ≤ f i → (f i - 4) / 3 < e ∧ rk ((f i - 4) / 3) ≠ -1 ∧ md_P 4 yl_U gy (f i) = 6 * gy ((f i - 4) / 3) + (f i - 4) % 3 ∧ (f i - 4) % 3 < md_pk (N.1 (gy ((f i - 4) / 3))) := by
    intro i hi h4
    have g := G.1 i hi
    exact (rq_port RY (by rw [g.2.2.2.1]; exact fun z => g.2.2.1 z.symm) h4).2
  have wg : ∀ i, i < m → 4 ≤ s i → (s i - 4) / 3 < e ∧ rk ((s i - 4) / 3) ≠ -1 ∧ md_P 4 yl_U gy (s i) = 6 * gy ((s i - 4) / 3) + (s i - 4) % 3 ∧ (s i - 4) % 3 < md_pk (N.1 (gy ((s i - 4) / 3))) := by
    intro i hi h4
    have g := G.1 i hi
    exact (rq_port RY (by rw [g.2.2.2.2]; exact g.2.2.1) h4).2
  have nw : ∀ i, i < m → 4 ≤ f i → N.2.1 (md_P 4 yl_U gy (f i)) = md_P 4 yl_U gy (s i) := by
    intro i hi h4
    have g := G.1 i hi
    have d := (rq_port RY (by rw [g.2.2.2.1]; exact fun z => g.2.2.1 z.symm) h4).1
    rw [(r6.1 _ d).2, g.2.2.2.1]
  -- what is kept
  let Q : (Nat → Bool) → Prop := fun M => (∀ c, c < e → M c = true → rk c ≠ -1) ∧ rc_st N j (rq_V gy e M) ∧ ∀ S, rc_cl N S → rc_st N j S → ∀ c, c < e → M c = true → S (gy c)
  have kp : ∀ M i, i < m → 4 ≤ f i → 4 ≤ s i → Q M → Q (rq_m M ((f i - 4) / 3) ((s i - 4) / 3)) := by
    intro M i hi h4 h5 q
    have a := wf i hi h4
    have b := wg i hi h5
    have w := nw i hi h4
    rw [a.2.2.1, b.2.2.1] at w
    have w' : N.2.1 (6 * gy ((s i - 4) / 3) + (s i - 4) % 3) = 6 * gy ((f i - 4) / 3) + (f i - 4) % 3 := by
      rw [← w]
      exact RY.1.1.1 _
    have cs : ∀ x, rq_m M ((f i - 4) / 3) ((s i - 4) / 3) x = true → M x = true ∨ (x = (f i - 4) / 3 ∧ M ((s i - 4) / 3) = true) ∨ (x = (s i - 4) / 3 ∧ M ((f i - 4) / 3) = true) := by
      intro x hx
      unfold rq_m at hx
      by_cases z : x = (f i - 4) / 3 ∨ x = (s i - 4) / 3
      · rw [if_pos z, Bool.or_eq_true] at hx
        rcases z with z | z
        · rcases hx with y | y
          · left; rw [z]; exact y
          · right; left; exact ⟨z, y⟩
        · rcases hx with y | y
          · right; right; exact ⟨z, y⟩
          · left; rw [z]; exact y
      · rw [if_neg z] at hx
        exact Or.inl hx
    refine ⟨fun c hc mc => ?_, fun b' t ht ew => ?_, fun S s1 s2 c hc mc => ?_⟩
    · rcases cs c mc with y | ⟨y, _⟩ | ⟨y, _⟩
      · exact q.1 c hc y
      · rw [y]; exact a.2.1
      · rw [y]; exact b.2.1
    · obtain ⟨c, hc, mc, ec⟩ := q.2.1 b' t ht ew
      exact ⟨c, hc, rq_mle c mc, ec⟩
    · rcases cs c mc with y | ⟨y, y2⟩ | ⟨y, y2⟩
      · exact q.2.2 S s1 s2 c hc y
      · rw [y]
        exact s1 _ _ _ _ b.2.2.2 a.2.2.2 w' (q.2.2 S s1 s2 _ b.1 y2)
      · rw [y]
        exact s1 _ _ _ _ a.2.2.2 b.2.2.2 w (q.2.2 S s1 s2 _ a.1 y2)
  refine rq_29 (by omega) hb (fun mt' W' => ?_)
  refine ⟨e + 1 + 1, ?_⟩
  refine rq_70 (Q := Q) (by omega) (by omega) A G (fun i hi h4 h5 => ⟨(wf i hi h4).1, (wg i hi h5).1⟩) kp (fun M mt2 q cl => ?_) e _ mt' (by omega) W' ?_
  · refine H M mt2 q.1 ?_ q.2.1 q.2.2
    intro a sa b t hs ht ew va
    obtain ⟨c, hc, mc, ec⟩ := va
    have lc := q.1 c hc mc
    have s3 : sa < 3 := by
      have := md_pk_3 (N.1 a)
      omega
    have D : md_D 4 yl_E (md_v e rk) (md_p 4 c sa) := by
      refine md_Dp ?_ s3
      unfold md_v
      rw [if_pos hc, ← RY.1.2.2.1 _ hc lc, ec]
      exact hs
    obtain ⟨d, h1, h2, h3, h4, t3⟩ := rq_back RY D ht (by rw [md_Pp s3, ec]; exact ew)
    by_cases own : hy (md_p 4 c sa) = md_p 4 c sa
    · rw [own] at h4
      have := ((md_pe s3 t3).mp h4).1
      exact ⟨c, hc, mc, by rw [this]; exact h3⟩
    · obtain ⟨i, hi, ei⟩ := G.2.1 _ own
      have g := G.1 i hi
      refine ⟨d, h1, ?_, h3⟩
      have c1 : (md_p 4 c sa - 4) / 3 = c := md_pd s3
      have c2 : (md_p 4 d t - 4) / 3 = d := md_pd t3
      have o1 : 4 ≤ md_p 4 c sa := md_po
      have o2 : 4 ≤ md_p 4 d t := md_po
      rcases ei with ei | ei
      · have es : s i = md_p 4 d t := by rw [← g.2.2.2.1, ei, h4]
        have z := cl i hi (by rw [ei]; exact o1) (by rw [es]; exact o2)
        rw [ei, es, c1, c2] at z
        rw [← z]; exact mc
      · have es : f i = md_p 4 d t := by rw [← g.2.2.2.2, ei, h4]
        have z := cl i hi (by rw [es]; exact o2) (by rw [ei]; exact o1)
        rw [ei, es, c1, c2] at z
        rw [z]; exact mc
  · have far : hy j ≠ j → hy (hy j) ≠ hy j := by
      intro z w
      have hi := md_Rh RY.1
      rw [hi] at w
      exact z w.symm
    refine ⟨fun c hc mc => ?_, fun b t ht ew => ?_, fun S s1 s2 c hc mc => ?_⟩
    · have p := of_decide_eq_true mc
      have q := rq_port RY (far p.1) p.2.1
      rw [p.2.2] at q
      exact q.2.2.1
    · obtain ⟨c, h1, h2, h3, h4, t3⟩ := rq_back RY dE ht (by rw [PE]; exact ew)
      have o1 : 4 ≤ md_p 4 c t := md_po
      refine ⟨c, h1, decide_eq_true ⟨?_, ?_, ?_⟩, h3⟩
      · rw [h4]; omega
      · rw [h4]; exact o1
      · rw [h4]; exact md_pd t3
    · have p := of_decide_eq_true mc
      have q := rq_port RY (far p.1) p.2.1
      have w := (r6.1 _ dE).2
      rw [PE, q.2.2.2.1] at w
      have r := s2 _ _ q.2.2.2.2 w
      rw [p.2.2] at r
      exact r
end
theorem i_vc_reach {k : Nat} {u : SX} {v : SY} (I : i_Rel k u v) (hk : k + 3 ≤ 1536) (v1 : Int32) : wpX_reach (fun r u' => wpY_reach (fun r' v' => r' = r ∧ i_Rel (k + 3) u' v') v v1) u v1 := by
  obtain ⟨fc, fe, fs, fl, fr, ak, aw, xk, xw, ir, re⟩ := u
  obtain ⟨gc, gw, ge, gm, gl, gs, bk, bf, bs, rk, rf, rs, mt⟩ := v
  obtain ⟨c, m, h, e1, e2, e3, e4, R⟩ := I
  dsimp only at e1 e2 e3 e4 R
  have e5 := e4.symm
  clear e4
  subst e1 e2 e3 e5
  unfold wpX_reach wpY_reach wpX_isEndIndex
  dsimp only
  by_cases z : v1 < 0
  · exact br_t z (br_t rfl (br_t z ⟨rfl, ir_mk R⟩))
  · obtain ⟨j, hj, rfl⟩ := nI_of z
    refine br_f z ?_
    by_cases j4 : j < 4
    · refine br_f (nI_ge (b := 4) j4 (by omega)) (br_f (by decide) ?_)
      have n3 : nI j ≤ 3 := nI_le (b := 3) (by omega) (by omega)
      refine rn_b (ge := ge) (gm := gm) (gl := gl) (gs := gs) (rk := rk) (rf := rf) (rs := rs) (mt := mt) R (fun e l n xk' xw' hY => ?_) (fun n N e l xk' xw' hx gx hn no RX hY => ?_)
      · refine br_t rfl (br_f z (br_t n3 (hY _ (fun e' l' m' n rk' rf' rs' => ?_))))
        exact br_t rfl ⟨rfl, ir_mk R⟩
      · refine br_f (by decide) ?_
        rw [show (30 : Int32) + nI j = nI (30 + j) from nI_add 30 j]
        refine rx_all RX hn j4 (fun rc ql ir' re' rl lq iq vc vs vm => ?_)
        refine br_f z (br_t n3 (hY _ (fun e' l' m' rk' rf' rs' hy gy RY => ?_)))
        have m3' := RY.2.2.2.2
        refine br_f (by decide) ?_
        refine yl_ac (by omega) (by omega) RY.2.1 ?_
        refine rq_all RY hn j4 (fun M mt' ml wc ws wm => ⟨?_, ir_mk R⟩)
        have c1 : cn_c M e' ≤ cn_c (fun _ => true) rc := by
          refine cn_rel (R := fun c i => gx (ql i) = gy c) e' _ (fun c hc mc => ?_) (fun c c' i hc hc' mc mc' r1 r2 => ?_)
          · obtain ⟨i, hi, ei⟩ := wm _ vc vs c hc mc
            exact ⟨i, hi, rfl, ei⟩
          · exact RY.1.2.2.2.2.1 c c' hc hc' (ml c hc mc) (ml c' hc' mc') (r1.symm.trans r2)
        have c2 : cn_c (fun _ => true) rc ≤ cn_c M e' := by
          refine cn_rel (R := fun i c => gy c = gx (ql i)) rc _ (fun i hi _ => ?_) (fun i i' c hi hi' _ _ r1 r2 => ?_)
          · obtain ⟨c, hc, mc, ec⟩ := vm _ wc ws i hi
            exact ⟨c, hc, mc, ec⟩
          · exact iq i i' hi hi' (RX.1.2.2.2.2.1 _ _ (lq i hi).1 (lq i' hi').1 (lq i hi).2 (lq i' hi').2 (r1.symm.trans r2))
        rw [cn_all] at c1 c2
        rw [Nat.le_antisymm c1 c2]
    · exact br_t (nI_le (a := 4) (by omega) hj) (br_t rfl (br_f z (br_f (nI_ge (a := 3) (by omega) hj) ⟨rfl, ir_mk R⟩)))
end
