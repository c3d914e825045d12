/-! counting; the relation between the two objects; the net that a run begins with -/
def cn_c (p : Nat → Bool) : Nat → Nat
  | 0 => 0
  | n + 1 => cn_c p n + (if p n = true then 1 else 0)
theorem cn_rm : ∀ (m : Nat) (q : Nat → Bool) (j : Nat), j < m → q j = true → cn_c q m = cn_c (fun i => q i && !(decide (i = j))) m + 1
  | 0, _, _, h, _ => absurd h (Nat.not_lt_zero _)
  | m + 1, q, j, h, hq => by
    show cn_c q m + _ = cn_c _ m + _ + 1
    by_cases e : j = m
    · subst e
      have same : ∀ k, k ≤ j → cn_c (fun i => q i && !(decide (i = j))) k = cn_c q k := by
        intro k
        induction k with
        | zero => intro _; rfl
        | succ k ih =>
          intro hk
          have d : decide (k = j) = false := decide_eq_false (by omega)
          show cn_c _ k + _ = cn_c q k + _
          rw [ih (by omega)]
          simp [d]
      rw [same j (Nat.le_refl j), if_pos hq]
      simp
    · have r := cn_rm m q j (by omega) hq
      have d : decide (m = j) = false := decide_eq_false (by omega)
      rw [r]
      simp only [d, Bool.not_false, Bool.and_true]
      omega
theorem cn_rel {R : Nat → Nat → Prop} {p : Nat → Bool} {m : Nat} : ∀ (n : Nat) (q : Nat → Bool), (∀ i, i < n → p i = true → ∃ j, j < m ∧ q j = true ∧ R i j) →
    (∀ i i' j, i < n → i' < n → p i = true → p i' = true → R i j → R i' j → i = i') → cn_c p n ≤ cn_c q m
  | 0, _, _, _ => Nat.zero_le _
  | n + 1, q, h1, h2 => by
    show cn_c p n + _ ≤ _
    by_cases e : p n = true
    · obtain ⟨j, hj, qj, rj⟩ := h1 n (by omega) e
      have r := cn_rel (R := R) (p := p) (m := m) n (fun i => q i && !(decide (i = j))) (fun i hi pi => by
        obtain ⟨j', hj', qj', rj'⟩ := h1 i (by omega) pi
        have ne : j' ≠ j := by
          intro z
          rw [z] at rj'
          have := h2 i n j (by omega) (by omega) pi e rj' rj
          omega
        refine ⟨j', hj', ?_, rj'⟩
        show (q j' && !(decide (j' = j))) = true
        rw [qj', decide_eq_false ne]
        rfl) (fun i i' j hi hi' => h2 i i' j (by omega) (by omega))
      rw [if_pos e, cn_rm m q j hj qj]
      omega
    · rw [if_neg e]
      exact cn_rel (R := R) (p := p) (m := m) n q (fun i hi => h1 i (by omega)) (fun i i' j hi hi' => h2 i i' j (by omega) (by omega))
theorem cn_all : ∀ n, cn_c (fun _ => true) n = n
  | 0 => rfl
  | n + 1 => by
    show cn_c _ n + _ = _
    rw [cn_all n, if_pos rfl]
def ir_in (p : Nat) : Nat := if p < 30 then p + 4 else if p < 34 then p - 30 else p
def ir_ou (q : Nat) : Nat := if q < 4 then q + 30 else if q < 34 then q - 4 else q
theorem ir_oi (p : Nat) : ir_ou (ir_in p) = p := by
  unfold ir_ou ir_in
  split
  · rw [if_neg (by omega), if_pos (by omega)]; omega
  · split
    · rw [if_pos (by omega)]; omega
    · rw [if_neg (by omega)]
theorem ir_io (q : Nat) : ir_in (ir_ou q) = q := by
  unfold ir_ou ir_in
  split
  · rw [if_neg (by omega), if_pos (by omega)]; omega
  · split
    · rw [if_pos (by omega)]; omega
    · rw [if_neg (by omega)]
def ir_hY (h : Nat → Nat) (q : Nat) : Nat := ir_in (h (ir_ou q))
def ir_D (c : Nat) (k : Nat → Int32) (p : Nat) : Prop := (30 ≤ p ∧ p ≤ 33) ∨ (p / 3 < c ∧ p % 3 < md_pk (k (p / 3)))
def ir_H (c : Nat) (k : Nat → Int32) (h : Nat → Nat) : Prop := fz_I h ∧ (∀ p, ir_D c k p → ir_D c k (h p)) ∧ ∀ p, ¬ ir_D c k p → h p = p
/-- what two related objects hold: the same cells, the same wires -/
def ir_R (c m : Nat) (ak aw bf bs : Nat → Int32) (h : Nat → Nat) : Prop :=
  c ≤ 10 ∧ (∀ i, i < c → fz_k3 (ak i)) ∧ ir_H c ak h ∧ (∀ p, p < 34 → aw p = md_fo p (h p)) ∧ yl_W m bf bs (ir_hY h)
theorem ir_hI {h : Nat → Nat} (hi : fz_I h) : fz_I (ir_hY h) := by
  intro q
  unfold ir_hY
  rw [ir_oi, hi, ir_io]
theorem ir_D34 {c : Nat} {k : Nat → Int32} (hc : c ≤ 10) {p : Nat} (h : ir_D c k p) : p < 34 := by
  unfold ir_D at h
  omega
theorem ir_m {c m : Nat} {ak aw bf bs : Nat → Int32} {h : Nat → Nat} (R : ir_R c m ak aw bf bs h) : m ≤ 17 := by
  obtain ⟨hc, _, H, _, f, s, A, G⟩ := R
  have lt : ∀ x, ir_hY h x ≠ x → x < 34 := by
    intro x hx
    by_cases d : ir_D c ak (ir_ou x)
    · have := ir_D34 hc d
      have e := ir_io x
      unfold ir_in at e
      split at e <;> omega
    · exfalso
      apply hx
      unfold ir_hY
      rw [H.2.2 _ d, ir_io]
  have r := cn_rel (R := fun i j => (if i < m then f i else s (i - m)) = j) (p := fun _ => true) (m := 34) (m + m) (fun _ => true) (fun i hi _ => by
    refine ⟨_, ?_, rfl, rfl⟩
    by_cases c : i < m
    · rw [if_pos c]
      refine lt _ ?_
      rw [(G.1 i c).2.2.2.1]
      exact fun z => (G.1 i c).2.2.1 z.symm
    · rw [if_neg c]
      refine lt _ ?_
      rw [(G.1 (i - m) (by omega)).2.2.2.2]
      exact (G.1 (i - m) (by omega)).2.2.1) (fun i i' j hi hi' _ _ r1 r2 => by
    have e := r1.trans r2.symm
    by_cases c1 : i < m <;> by_cases c2 : i' < m
    · rw [if_pos c1, if_pos c2] at e
      exact G.2.2.1 i i' c1 c2 e
    · rw [if_pos c1, if_neg c2] at e
      exact absurd e (G.2.2.2 i (i' - m) c1 (by omega))
    · rw [if_neg c1, if_pos c2] at e
      exact absurd e.symm (G.2.2.2 i' (i - m) c2 (by omega))
    · rw [if_neg c1, if_neg c2] at e
      have := yl_ss G (i := i - m) (j := i' - m) (by omega) (by omega) e
      omega)
  rw [cn_all, cn_all] at r
  omega
def ir_P (p : Nat) : Nat := 6 * (16 + p / 3) + p % 3
def ir_kd (c : Nat) (k : Nat → Int32) (n : Nat) : Int32 := if 16 ≤ n ∧ n < 16 + c then k (n - 16) else -1
def ir_w (h : Nat → Nat) (x : Nat) : Nat := if 96 ≤ x ∧ x < 168 ∧ x % 6 < 3 then ir_P (h (3 * (x / 6 - 16) + x % 6)) else if 192 ≤ x then 6 * (x / 6) + (x % 6 + 3) % 6 else x
def ir_N (c : Nat) (k : Nat → Int32) (h : Nat → Nat) : fz_N := (ir_kd c k, ir_w h, 0)
theorem ir_h36 {c : Nat} {k : Nat → Int32} {h : Nat → Nat} (hc : c ≤ 10) (H : ir_H c k h) {p : Nat} (hp : p < 36) : h p < 36 := by
  by_cases d : ir_D c k p
  · have := ir_D34 hc (H.2.1 p d)
    omega
  · rw [H.2.2 p d]; exact hp
theorem ir_wP (h : Nat → Nat) {p : Nat} (hp : p < 36) : ir_w h (ir_P p) = ir_P (h p) := by
  have e1 : 96 ≤ ir_P p ∧ ir_P p < 168 ∧ ir_P p % 6 < 3 := by unfold ir_P; omega
  have e2 : 3 * (ir_P p / 6 - 16) + ir_P p % 6 = p := by unfold ir_P; omega
  unfold ir_w
  rw [if_pos e1, e2]
theorem ir_wI {c : Nat} {k : Nat → Int32} {h : Nat → Nat} (hc : c ≤ 10) (H : ir_H c k h) : fz_I (ir_w h) := by
  intro x
  by_cases a : 96 ≤ x ∧ x < 168 ∧ x % 6 < 3
  · have ex : x = ir_P (3 * (x / 6 - 16) + x % 6) := by unfold ir_P; omega
    have lt : 3 * (x / 6 - 16) + x % 6 < 36 := by omega
    rw [ex, ir_wP h lt, ir_wP h (ir_h36 hc H lt), H.1]
  · by_cases b : 192 ≤ x
    · have e1 : ir_w h x = 6 * (x / 6) + (x % 6 + 3) % 6 := by unfold ir_w; rw [if_neg a, if_pos b]
      have n1 : ¬ (96 ≤ 6 * (x / 6) + (x % 6 + 3) % 6 ∧ 6 * (x / 6) + (x % 6 + 3) % 6 < 168 ∧ (6 * (x / 6) + (x % 6 + 3) % 6) % 6 < 3) := by omega
      rw [e1]
      unfold ir_w
      rw [if_neg n1, if_pos (by omega)]
      omega
    · have e1 : ir_w h x = x := by unfold ir_w; rw [if_neg a, if_neg b]
      rw [e1, e1]
theorem ir_ok {c : Nat} {k : Nat → Int32} {h : Nat → Nat} (hc : c ≤ 10) (hk : ∀ i, i < c → fz_k3 (k i)) (H : ir_H c k h) : fz_ok (ir_N c k h) := by
  refine ⟨ir_wI hc H, fun a ha => ?_⟩
  have ha' : ir_kd c k a ≠ -1 := ha
  unfold ir_kd at ha'
  by_cases z : 16 ≤ a ∧ a < 16 + c
  · refine ⟨z.1, ?_, fun m hm => ?_⟩
    · show fz_k3 (ir_kd c k a)
      unfold ir_kd
      rw [if_pos z]
      exact hk _ (by omega)
    · have m32 : 32 ≤ m := by
        obtain ⟨j, hj⟩ := hm
        rw [fz_pw] at hj
        have := Nat.div_le_self (m / 2) (2 ^ j)
        omega
      refine ⟨?_, fun i hi => ?_⟩
      · show ir_kd c k m = -1
        unfold ir_kd
        rw [if_neg (by omega)]
      · show ir_w h (6 * m + i) = _
        unfold ir_w
        rw [if_neg (by omega), if_pos (by omega)]
        omega
  · rw [if_neg z] at ha'
    exact absurd rfl ha'
theorem ir_kdl {c : Nat} {k : Nat → Int32} (hk : ∀ i, i < c → fz_k3 (k i)) {n : Nat} (h : ir_kd c k n ≠ -1) : 16 ≤ n ∧ n < 16 + c := by
  unfold ir_kd at h
  by_cases z : 16 ≤ n ∧ n < 16 + c
  · exact z
  · rw [if_neg z] at h
    exact absurd rfl h
theorem ir_k3m {k : Int32} (h : fz_k3 k) : k ≠ -1 := by
  rcases h with z | z | z <;> rw [z] <;> decide
theorem ir_X {c : Nat} {k rk rw aw : Nat → Int32} {h : Nat → Nat} (hc : c ≤ 10) (hk : ∀ i, i < c → fz_k3 (k i)) (H : ir_H c k h) (haw : ∀ p, p < 34 → aw p = md_fo p (h p))
    (hrk : ∀ p, p < 492 → rk p = if p < c then k p else -1) (hrw : ∀ p, p < 1476 → rw p = if p < 34 then aw p else -1) : xl_R 0 (ir_N c k h) 12 0 rk rw h (fun c => 16 + c) := by
  have kin : ∀ i, i < c → ir_kd c k (16 + i) = k i := by
    intro i hi
    unfold ir_kd
    rw [if_pos (by omega), show 16 + i - 16 = i by omega]
  have live : ∀ i, i < 12 → rk i ≠ -1 → i < c ∧ rk i = k i := by
    intro i hi l
    have := hrk i (by omega)
    by_cases z : i < c
    · rw [if_pos z] at this
      exact ⟨z, this⟩
    · rw [if_neg z] at this
      exact absurd this l
  have PX : ∀ p, md_P 0 xl_U (fun c => 16 + c) p = ir_P p := by
    intro p
    unfold md_P ir_P
    rw [if_pos (Nat.zero_le _), Nat.sub_zero]
  have DX : ∀ p, ir_D c k p ↔ md_D 0 xl_E (md_v 12 rk) p := by
    intro p
    unfold ir_D md_D xl_E md_v
    rw [Nat.sub_zero]
    by_cases z : p / 3 < 12
    · have := hrk (p / 3) (by omega)
      rw [if_pos z, this]
      by_cases y : p / 3 < c
      · rw [if_pos y]
        have : 0 ≤ p := Nat.zero_le p
        simp only [y, this, true_and]
      · rw [if_neg y, md_pk_m]
        omega
    · rw [if_neg z]
      omega
  refine ⟨⟨ir_ok hc hk H, ⟨?_, ?_⟩, ?_, ?_, ?_, ?_, ?_, ?_⟩, ?_, rfl, by omega, by omega⟩
  · show ir_kd c k 26 = -1
    unfold ir_kd
    rw [if_neg (by omega)]
  · show ir_kd c k 27 = -1
    unfold ir_kd
    rw [if_neg (by omega)]
  · intro i hi l
    obtain ⟨q1, q2⟩ := live i hi l
    exact (kin i q1).trans q2.symm
  · intro n hn
    have q := ir_kdl hk hn
    refine ⟨n - 16, by omega, ?_, by dsimp only; omega⟩
    rw [hrk _ (by omega), if_pos (by omega)]
    exact ir_k3m (hk _ (by omega))
  · intro i i' _ _ _ _ e
    dsimp only at e
    omega
  · intro p hp
    rw [PX]
    unfold xl_E at hp
    refine ⟨fun _ => ⟨by omega, ?_⟩, by unfold ir_P; omega, by unfold ir_P; omega, rfl⟩
    rw [hrk _ (by omega), if_neg (by omega)]
  · intro p q hp hq e
    rw [PX, PX] at e
    unfold ir_P at e
    unfold xl_E at hp hq
    omega
  · refine ⟨fun p hp => ?_, fun p hp => H.2.2 p (fun z => hp ((DX p).mp z))⟩
    have dp := (DX p).mpr hp
    have l := ir_D34 hc dp
    refine ⟨(DX _).mp (H.2.1 p dp), ?_⟩
    rw [PX, PX]
    exact ir_wP h (by omega)
  · intro p hp
    rw [hrw p hp]
    by_cases z : p < 34
    · rw [if_pos z]
      exact haw p z
    · rw [if_neg z, H.2.2 p (fun d => z (ir_D34 hc d)), md_fo_s]
theorem ir_Y {c m : Nat} {k rk rf rs bf bs : Nat → Int32} {h : Nat → Nat} (hc : c ≤ 10) (hm : m ≤ 20) (hk : ∀ i, i < c → fz_k3 (k i)) (H : ir_H c k h) (W : yl_W m bf bs (ir_hY h))
    (hrk : ∀ p, p < c → rk p = k p) (hrw : ∀ p, p < m → rf p = bf p ∧ rs p = bs p) : yl_R 0 (ir_N c k h) c 0 m rk rf rs (ir_hY h) (fun c => 16 + c) := by
  have kin : ∀ i, i < c → ir_kd c k (16 + i) = k i := by
    intro i hi
    unfold ir_kd
    rw [if_pos (by omega), show 16 + i - 16 = i by omega]
  have PY : ∀ q, q < 34 → md_P 4 yl_U (fun c => 16 + c) q = ir_P (ir_ou q) := by
    intro q hq
    unfold md_P ir_P ir_ou yl_U
    by_cases z : 4 ≤ q
    · rw [if_pos z, if_neg (by omega), if_pos hq]
    · rw [if_neg z, if_pos (show q < 4 by omega)]
      split <;> omega
  have DY : ∀ q, ir_D c k (ir_ou q) ↔ md_D 4 yl_E (md_v c rk) q := by
    intro q
    unfold ir_D md_D yl_E md_v ir_ou
    by_cases z : q < 4
    · rw [if_pos z]
      constructor
      · intro _; exact Or.inl z
      · intro _; left; omega
    · rw [if_neg z]
      by_cases y : q < 34
      · rw [if_pos y]
        by_cases x : (q - 4) / 3 < c
        · rw [if_pos x, hrk _ x]
          omega
        · rw [if_neg x]
          omega
      · rw [if_neg y, if_neg (by omega)]
        omega
  refine ⟨⟨ir_ok hc hk H, ⟨?_, ?_⟩, ?_, ?_, ?_, ?_, ?_, ?_⟩, ?_, rfl, by omega, by omega⟩
  · show ir_kd c k 26 = -1
    unfold ir_kd
    rw [if_neg (by omega)]
  · show ir_kd c k 27 = -1
    unfold ir_kd
    rw [if_neg (by omega)]
  · intro i hi l
    exact (kin i hi).trans (hrk i hi).symm
  · intro n hn
    have q := ir_kdl hk hn
    refine ⟨n - 16, by omega, ?_, by dsimp only; omega⟩
    rw [hrk _ (by omega)]
    exact ir_k3m (hk _ (by omega))
  · intro i i' _ _ _ _ e
    dsimp only at e
    omega
  · intro p hp
    unfold yl_E at hp
    rw [PY p (by omega)]
    refine ⟨fun z => by omega, ?_, ?_, ?_⟩
    · unfold ir_P ir_ou; rw [if_pos hp]; omega
    · unfold ir_P ir_ou; rw [if_pos hp]; omega
    · unfold ir_P ir_ou yl_U; rw [if_pos hp]; split <;> omega
  · intro p q hp hq e
    unfold yl_E at hp hq
    rw [PY p (by omega), PY q (by omega)] at e
    unfold ir_P ir_ou at e
    rw [if_pos hp, if_pos hq] at e
    omega
  · refine ⟨fun q hq => ?_, fun q hq => ?_⟩
    · have dp := (DY q).mpr hq
      have l := ir_D34 hc dp
      have d2 := H.2.1 _ dp
      have l2 := ir_D34 hc d2
      have d3 : ir_D c k (ir_ou (ir_hY h q)) := by
        unfold ir_hY
        rw [ir_oi]
        exact d2
      refine ⟨(DY _).mp d3, ?_⟩
      have lq : q < 34 := by
        have e := ir_io q
        unfold ir_in at e
        split at e <;> omega
      have lh : ir_hY h q < 34 := by
        unfold ir_hY ir_in
        split <;> omega
      rw [PY q lq, PY _ lh]
      show ir_w h (ir_P (ir_ou q)) = _
      rw [ir_wP h (by omega)]
      unfold ir_hY
      rw [ir_oi]
    · unfold ir_hY
      rw [H.2.2 _ (fun z => hq ((DY q).mp z)), ir_io]
  · obtain ⟨f, s, A, G⟩ := W
    refine ⟨f, s, fun i hi => ?_, G⟩
    rw [(hrw i hi).1, (hrw i hi).2]
    exact A i hi
