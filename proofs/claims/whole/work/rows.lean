section
theorem pk_us {f : Nat → Int32} {k : Nat} {x : Int32} : upd f k x k = x := if_pos rfl
theorem pk_un {f : Nat → Int32} {k j : Nat} {x : Int32} (h : j ≠ k) : upd f k x j = f j := if_neg h
theorem pk_sub {a b : Nat} (h : b ≤ a) : nI a - nI b = nI (a - b) := by
  obtain ⟨c, rfl⟩ : ∃ c, a = c + b := ⟨a - b, by omega⟩
  rw [← nI_add, Int32.add_sub_cancel, Nat.add_sub_cancel]
theorem pk_m1 (n : Nat) : nI (n + 1) + (-1) = nI n := by
  rw [← nI_1, Int32.add_assoc, show (1 : Int32) + (-1) = 0 from rfl, Int32.add_zero]
theorem pk_mul (a b : Nat) : nI a * nI b = nI (a * b) := (Int32.ofNat_mul a b).symm
theorem pk_div {a d : Nat} (ha : a < 2 ^ 31) (h0 : 0 < d) (hd : d < 2 ^ 31) : nI a / nI d = nI (a / d) := by
  apply Int32.toInt_inj.mp
  rw [lg_idiv_nonneg (by rw [nI_toInt ha]; omega) (by rw [nI_toInt hd]; omega), nI_toInt ha, nI_toInt hd, nI_toInt (Nat.lt_of_le_of_lt (Nat.div_le_self a d) ha)]
  first | rfl | exact (Int.natCast_ediv _ _).symm
theorem pk_rem {a d : Nat} (ha : a < 2 ^ 31) (h0 : 0 < d) (hd : d < 2 ^ 31) : nI a - nI a / nI d * nI d = nI (a % d) := by
  rw [pk_div ha h0 hd, pk_mul, pk_sub (Nat.div_mul_le_self a d)]
  exact congrArg nI (by have := Nat.div_add_mod' a d; omega)
theorem pk_sub_toInt {a b : Nat} (ha : a < 2 ^ 30) (hb : b < 2 ^ 30) : (nI a - nI b).toInt = (a : Int) - b := by
  rw [Int32.toInt_sub, nI_toInt (by omega), nI_toInt (by omega)]
  exact Int.bmod_eq_of_le (by omega) (by omega)
theorem pk_sneg {a b : Nat} (hb : b < 2 ^ 30) (h : a < b) : nI a - nI b < 0 := by
  rw [Int32.lt_iff_toInt_lt, pk_sub_toInt (by omega) hb, show (0 : Int32).toInt = 0 from by decide]
  omega
theorem pk_ix (x : Int32) {n : Nat} (hn : n < 2 ^ 31) : x < 0 ∨ nI n ≤ x ∨ ∃ j : Nat, j < n ∧ x = nI j := by
  by_cases h : x < 0
  · exact Or.inl h
  · obtain ⟨j, hj, rfl⟩ := nI_of h
    by_cases h2 : j < n
    · exact Or.inr (Or.inr ⟨j, h2, rfl⟩)
    · exact Or.inr (Or.inl (nI_le (by omega) hj))
theorem pk_le {x y : Int32} {A B : Prop} (a b : Nat) (f : a ≤ b → A) (g : b < a → B) (hx : x = nI a := by rfl) (hy : y = nI b := by rfl) (ha : a < 2 ^ 31 := by omega) (hb : b < 2 ^ 31 := by omega) : (x ≤ y → A) ∧ (¬ x ≤ y → B) := by
  subst hx hy
  rw [nI_leI ha hb]
  exact ⟨f, fun z => g (by omega)⟩
theorem pk_lt {x y : Int32} {A B : Prop} (a b : Nat) (f : a < b → A) (g : b ≤ a → B) (hx : x = nI a := by rfl) (hy : y = nI b := by rfl) (ha : a < 2 ^ 31 := by omega) (hb : b < 2 ^ 31 := by omega) : (x < y → A) ∧ (¬ x < y → B) := by
  subst hx hy
  rw [nI_ltI ha hb]
  exact ⟨f, fun z => g (by omega)⟩
theorem pk_eq {x y : Int32} {A B : Prop} (a b : Nat) (f : a = b → A) (g : a ≠ b → B) (hx : x = nI a := by rfl) (hy : y = nI b := by rfl) (ha : a < 2 ^ 31 := by omega) (hb : b < 2 ^ 31 := by omega) : (x = y → A) ∧ (¬ x = y → B) := by
  subst hx hy
  rw [nI_eq ha hb]
  exact ⟨f, g⟩
theorem pk_in {x : Int32} (n N : Nat) (h : n < N) (hx : x = nI n := by rfl) (hN : N < 2 ^ 31 := by omega) : vp_in x N := by
  subst hx
  exact vp_in_nI h hN
theorem pk_cl {x : Int32} (n : Nat) (hx : x = nI n := by rfl) (h : n < 2 ^ 31 := by omega) : x.toNatClampNeg = n := by
  subst hx
  exact nI_clamp h
theorem pk_loop {σ : Type} (W : Nat → Nat → σ → Prop) (I : Nat → σ → Prop) (e i0 : Nat) (s : σ) (hi : i0 ≤ e) (h0 : I i0 s) (hx : ∀ n s, I e s → W (n + 1) e s)
    (hs : ∀ n i s, i < e → I i s → (∀ s', I (i + 1) s' → W n (i + 1) s') → W (n + 1) i s) : ∃ n, W n i0 s :=
  ⟨e + 1, loop_i W I e hx hs (e + 1) i0 s hi (by omega) h0⟩
end
section
/-! fuses over an involution on ports (a fixpoint is an open port) -/
def fz_F (w : Nat → Nat) (p q x : Nat) : Nat :=
  if x = p then p else if x = q then q
  else if w x = p then (if w q = q then x else w q)
  else if w x = q then (if w p = p then x else w p)
  else w x
def fz_L (w : Nat → Nat) (p q : Nat) : Nat := if w p = q then 1 else 0
def fz_I (w : Nat → Nat) : Prop := ∀ x, w (w x) = x
theorem fz_inv {w : Nat → Nat} (hw : fz_I w) {p q : Nat} (hpq : p ≠ q) : fz_I (fz_F w p q) := by
  intro x
  have hx := hw x
  have hp := hw p
  have hq := hw q
  unfold fz_F
  grind
theorem fz_symm {w : Nat → Nat} (hw : fz_I w) {p q : Nat} (hpq : p ≠ q) (x : Nat) : fz_F w p q x = fz_F w q p x := by
  have hx := hw x
  have hp := hw p
  have hq := hw q
  unfold fz_F
  grind
theorem fz_Lsymm {w : Nat → Nat} (hw : fz_I w) (p q : Nat) : fz_L w p q = fz_L w q p := by
  have hp := hw p
  have hq := hw q
  unfold fz_L
  grind
theorem fz_comm {w : Nat → Nat} (hw : fz_I w) {p q r s : Nat} (h1 : p ≠ q) (h2 : p ≠ r) (h3 : p ≠ s) (h4 : q ≠ r) (h5 : q ≠ s) (h6 : r ≠ s) (x : Nat) :
    fz_F (fz_F w p q) r s x = fz_F (fz_F w r s) p q x := by
  have hx := hw x
  have hp := hw p
  have hq := hw q
  have hr := hw r
  have hs := hw s
  unfold fz_F
  grind (splits := 40)
theorem fz_commL {w : Nat → Nat} (hw : fz_I w) {p q r s : Nat} (h1 : p ≠ q) (h2 : p ≠ r) (h3 : p ≠ s) (h4 : q ≠ r) (h5 : q ≠ s) (h6 : r ≠ s) :
    fz_L w p q + fz_L (fz_F w p q) r s = fz_L w r s + fz_L (fz_F w r s) p q := by
  have hp := hw p
  have hq := hw q
  have hr := hw r
  have hs := hw s
  unfold fz_L fz_F
  grind
def fz_run : List (Nat × Nat) → (Nat → Nat) × Nat → (Nat → Nat) × Nat
  | [], s => s
  | o :: l, s => fz_run l (fz_F s.1 o.1 o.2, s.2 + fz_L s.1 o.1 o.2)
def fz_dj (a b : Nat × Nat) : Prop := a.1 ≠ b.1 ∧ a.1 ≠ b.2 ∧ a.2 ≠ b.1 ∧ a.2 ≠ b.2
theorem fz_run_inv : ∀ (l : List (Nat × Nat)) (s : (Nat → Nat) × Nat), fz_I s.1 → (∀ o, o ∈ l → o.1 ≠ o.2) → fz_I (fz_run l s).1
  | [], _, h, _ => h
  | o :: l, s, h, hl => fz_run_inv l _ (fz_inv h (hl o List.mem_cons_self)) (fun o' h' => hl o' (List.mem_cons_of_mem _ h'))
theorem fz_op2 {s : (Nat → Nat) × Nat} (h : fz_I s.1) {a b : Nat × Nat} (ha : a.1 ≠ a.2) (hb : b.1 ≠ b.2) (hd : fz_dj a b) (l : List (Nat × Nat)) :
    fz_run (a :: b :: l) s = fz_run (b :: a :: l) s := by
  obtain ⟨d1, d2, d3, d4⟩ := hd
  show fz_run l (fz_F (fz_F s.1 a.1 a.2) b.1 b.2, s.2 + fz_L s.1 a.1 a.2 + fz_L (fz_F s.1 a.1 a.2) b.1 b.2) = fz_run l (fz_F (fz_F s.1 b.1 b.2) a.1 a.2, s.2 + fz_L s.1 b.1 b.2 + fz_L (fz_F s.1 b.1 b.2) a.1 a.2)
  have e1 : fz_F (fz_F s.1 a.1 a.2) b.1 b.2 = fz_F (fz_F s.1 b.1 b.2) a.1 a.2 := funext (fz_comm h ha d1 d2 d3 d4 hb)
  have e2 := fz_commL h ha d1 d2 d3 d4 hb
  rw [e1, Nat.add_assoc, e2, ← Nat.add_assoc]
theorem fz_run1 : ∀ (l : List (Nat × Nat)) (s : (Nat → Nat) × Nat) (o : Nat × Nat), fz_I s.1 → o.1 ≠ o.2 → (∀ o', o' ∈ l → o'.1 ≠ o'.2 ∧ fz_dj o o') →
    fz_run (o :: l) s = fz_run [o] (fz_run l s)
  | [], _, _, _, _, _ => rfl
  | b :: l, s, o, h, ho, hl => by
    have hb := hl b List.mem_cons_self
    rw [fz_op2 h ho hb.1 hb.2 l]
    exact fz_run1 l _ o (fz_inv h hb.1) ho (fun o' h' => hl o' (List.mem_cons_of_mem _ h'))
theorem fz_run2 : ∀ (k l : List (Nat × Nat)) (s : (Nat → Nat) × Nat), fz_I s.1 → (∀ o, o ∈ k → o.1 ≠ o.2) → (∀ o, o ∈ l → o.1 ≠ o.2) → (∀ o, o ∈ k → ∀ o', o' ∈ l → fz_dj o o') →
    fz_run k (fz_run l s) = fz_run l (fz_run k s)
  | [], _, _, _, _, _, _ => rfl
  | a :: k, l, s, h, hk, hl, hd => by
    have e := fz_run1 l s a h (hk a List.mem_cons_self) (fun o' h' => ⟨hl o' h', hd a List.mem_cons_self o' h'⟩)
    show fz_run k (fz_run [a] (fz_run l s)) = _
    rw [← e]
    exact fz_run2 k l (fz_run [a] s) (fz_inv h (hk a List.mem_cons_self)) (fun o h' => hk o (List.mem_cons_of_mem _ h')) hl (fun o h' => hd o (List.mem_cons_of_mem _ h'))
theorem fz_keep : ∀ (l : List (Nat × Nat)) (s : (Nat → Nat) × Nat) (x : Nat), (∀ o, o ∈ l → (x ≠ o.1 ∧ x ≠ o.2) ∧ s.1 x ≠ o.1 ∧ s.1 x ≠ o.2) → (fz_run l s).1 x = s.1 x
  | [], _, _, _ => rfl
  | o :: l, s, x, h => by
    obtain ⟨⟨h1, h2⟩, h3, h4⟩ := h o List.mem_cons_self
    have e : fz_F s.1 o.1 o.2 x = s.1 x := by
      unfold fz_F
      rw [if_neg h1, if_neg h2, if_neg h3, if_neg h4]
    have r := fz_keep l (fz_F s.1 o.1 o.2, s.2 + fz_L s.1 o.1 o.2) x (fun o' h' => by
      have g := h o' (List.mem_cons_of_mem _ h')
      refine ⟨g.1, ?_⟩
      show fz_F s.1 o.1 o.2 x ≠ o'.1 ∧ fz_F s.1 o.1 o.2 x ≠ o'.2
      rw [e]
      exact g.2)
    exact r.trans e
theorem fz_sw {s : (Nat → Nat) × Nat} (h : fz_I s.1) {p q : Nat} (hpq : p ≠ q) (l : List (Nat × Nat)) : fz_run ((p, q) :: l) s = fz_run ((q, p) :: l) s := by
  show fz_run l (fz_F s.1 p q, s.2 + fz_L s.1 p q) = fz_run l (fz_F s.1 q p, s.2 + fz_L s.1 q p)
  rw [funext (fz_symm h hpq), fz_Lsymm h p q]
end
