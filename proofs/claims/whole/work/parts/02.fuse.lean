/-! fuses over an involution on ports (a fixpoint is a port without a wire) -/
def fz_F (w : Nat → Nat) (p q x : Nat) : Nat :=
  if x = p then p else if x = q then q
  else if w x = p then (if w q = q then x else w q)
  else if w x = q then (if w p = p then x else w p)
  else w x
def fz_L (w : Nat → Nat) (p q : Nat) : Nat := if w p = q then 1 else 0
def fz_I (w : Nat → Nat) : Prop := ∀ x, w (w x) = x
theorem fz_inv {w : Nat → Nat} (hw : fz_I w) {p q : Nat} (hpq : p ≠ q) : fz_I (fz_F w p q) := by
  intro x
  have hx := hw x
  have hp := hw p
  have hq := hw q
  unfold fz_F
  grind
theorem fz_symm {w : Nat → Nat} (hw : fz_I w) {p q : Nat} (hpq : p ≠ q) (x : Nat) : fz_F w p q x = fz_F w q p x := by
  have hx := hw x
  have hp := hw p
  have hq := hw q
  unfold fz_F
  grind
theorem fz_Lsymm {w : Nat → Nat} (hw : fz_I w) (p q : Nat) : fz_L w p q = fz_L w q p := by
  have hp := hw p
  have hq := hw q
  unfold fz_L
  grind
theorem fz_comm {w : Nat → Nat} (hw : fz_I w) {p q r s : Nat} (h1 : p ≠ q) (h2 : p ≠ r) (h3 : p ≠ s) (h4 : q ≠ r) (h5 : q ≠ s) (h6 : r ≠ s) (x : Nat) :
    fz_F (fz_F w p q) r s x = fz_F (fz_F w r s) p q x := by
  have hx := hw x
  have hp := hw p
  have hq := hw q
  have hr := hw r
  have hs := hw s
  unfold fz_F
  grind (splits := 40)
theorem fz_commL {w : Nat → Nat} (hw : fz_I w) {p q r s : Nat} (h1 : p ≠ q) (h2 : p ≠ r) (h3 : p ≠ s) (h4 : q ≠ r) (h5 : q ≠ s) (h6 : r ≠ s) :
    fz_L w p q + fz_L (fz_F w p q) r s = fz_L w r s + fz_L (fz_F w r s) p q := by
  have hp := hw p
  have hq := hw q
  have hr := hw r
  have hs := hw s
  unfold fz_L fz_F
  grind
def fz_run : List (Nat × Nat) → (Nat → Nat) × Nat → (Nat → Nat) × Nat
  | [], s => s
  | o :: l, s => fz_run l (fz_F s.1 o.1 o.2, s.2 + fz_L s.1 o.1 o.2)
def fz_dj (a b : Nat × Nat) : Prop := a.1 ≠ b.1 ∧ a.1 ≠ b.2 ∧ a.2 ≠ b.1 ∧ a.2 ≠ b.2
theorem fz_run_inv : ∀ (l : List (Nat × Nat)) (s : (Nat → Nat) × Nat), fz_I s.1 → (∀ o, o ∈ l → o.1 ≠ o.2) → fz_I (fz_run l s).1
  | [], _, h, _ => h
  | o :: l, s, h, hl => fz_run_inv l _ (fz_inv h (hl o List.mem_cons_self)) (fun o' h' => hl o' (List.mem_cons_of_mem _ h'))
theorem fz_op2 {s : (Nat → Nat) × Nat} (h : fz_I s.1) {a b : Nat × Nat} (ha : a.1 ≠ a.2) (hb : b.1 ≠ b.2) (hd : fz_dj a b) (l : List (Nat × Nat)) :
    fz_run (a :: b :: l) s = fz_run (b :: a :: l) s := by
  obtain ⟨d1, d2, d3, d4⟩ := hd
  show fz_run l (fz_F (fz_F s.1 a.1 a.2) b.1 b.2, s.2 + fz_L s.1 a.1 a.2 + fz_L (fz_F s.1 a.1 a.2) b.1 b.2) = fz_run l (fz_F (fz_F s.1 b.1 b.2) a.1 a.2, s.2 + fz_L s.1 b.1 b.2 + fz_L (fz_F s.1 b.1 b.2) a.1 a.2)
  have e1 : fz_F (fz_F s.1 a.1 a.2) b.1 b.2 = fz_F (fz_F s.1 b.1 b.2) a.1 a.2 := funext (fz_comm h ha d1 d2 d3 d4 hb)
  have e2 := fz_commL h ha d1 d2 d3 d4 hb
  rw [e1, Nat.add_assoc, e2, ← Nat.add_assoc]
theorem fz_run1 : ∀ (l : List (Nat × Nat)) (s : (Nat → Nat) × Nat) (o : Nat × Nat), fz_I s.1 → o.1 ≠ o.2 → (∀ o', o' ∈ l → o'.1 ≠ o'.2 ∧ fz_dj o o') →
    fz_run (o :: l) s = fz_run [o] (fz_run l s)
  | [], _, _, _, _, _ => rfl
  | b :: l, s, o, h, ho, hl => by
    have hb := hl b List.mem_cons_self
    rw [fz_op2 h ho hb.1 hb.2 l]
    exact fz_run1 l _ o (fz_inv h hb.1) ho (fun o' h' => hl o' (List.mem_cons_of_mem _ h'))
theorem fz_run2 : ∀ (k l : List (Nat × Nat)) (s : (Nat → Nat) × Nat), fz_I s.1 → (∀ o, o ∈ k → o.1 ≠ o.2) → (∀ o, o ∈ l → o.1 ≠ o.2) → (∀ o, o ∈ k → ∀ o', o' ∈ l → fz_dj o o') →
    fz_run k (fz_run l s) = fz_run l (fz_run k s)
  | [], _, _, _, _, _, _ => rfl
  | a :: k, l, s, h, hk, hl, hd => by
    have e := fz_run1 l s a h (hk a List.mem_cons_self) (fun o' h' => ⟨hl o' h', hd a List.mem_cons_self o' h'⟩)
    show fz_run k (fz_run [a] (fz_run l s)) = _
    rw [← e]
    exact fz_run2 k l (fz_run [a] s) (fz_inv h (hk a List.mem_cons_self)) (fun o h' => hk o (List.mem_cons_of_mem _ h')) hl (fun o h' => hd o (List.mem_cons_of_mem _ h'))
theorem fz_keep : ∀ (l : List (Nat × Nat)) (s : (Nat → Nat) × Nat) (x : Nat), (∀ o, o ∈ l → (x ≠ o.1 ∧ x ≠ o.2) ∧ s.1 x ≠ o.1 ∧ s.1 x ≠ o.2) → (fz_run l s).1 x = s.1 x
  | [], _, _, _ => rfl
  | o :: l, s, x, h => by
    obtain ⟨⟨h1, h2⟩, h3, h4⟩ := h o List.mem_cons_self
    have e : fz_F s.1 o.1 o.2 x = s.1 x := by
      unfold fz_F
      rw [if_neg h1, if_neg h2, if_neg h3, if_neg h4]
    have r := fz_keep l (fz_F s.1 o.1 o.2, s.2 + fz_L s.1 o.1 o.2) x (fun o' h' => by
      have g := h o' (List.mem_cons_of_mem _ h')
      refine ⟨g.1, ?_⟩
      show fz_F s.1 o.1 o.2 x ≠ o'.1 ∧ fz_F s.1 o.1 o.2 x ≠ o'.2
      rw [e]
      exact g.2)
    exact r.trans e
theorem fz_sw {s : (Nat → Nat) × Nat} (h : fz_I s.1) {p q : Nat} (hpq : p ≠ q) (l : List (Nat × Nat)) : fz_run ((p, q) :: l) s = fz_run ((q, p) :: l) s := by
  show fz_run l (fz_F s.1 p q, s.2 + fz_L s.1 p q) = fz_run l (fz_F s.1 q p, s.2 + fz_L s.1 q p)
  rw [funext (fz_symm h hpq), fz_Lsymm h p q]
