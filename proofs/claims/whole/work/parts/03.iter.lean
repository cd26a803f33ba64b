/-! the rounds: a pass over the edges, passes one after another, and the least closed set that they reach -/
def rc_s (f t : Nat → Nat) (V E : Nat → Bool) (S : Nat → Bool) (i : Nat) : Nat → Bool :=
  fun x => S x || (E i && V (t i) && S (f i) && decide (x = t i))
def rc_p (f t : Nat → Nat) (V E : Nat → Bool) (S : Nat → Bool) : Nat → Nat → Bool
  | 0 => S
  | i + 1 => rc_s f t V E (rc_p f t V E S i) i
def rc_0 (V : Nat → Bool) : Nat → Bool := fun x => V 0 && decide (x = 0)
def rc_k (m : Nat) (f t : Nat → Nat) (V E : Nat → Bool) : Nat → Nat → Bool
  | 0 => rc_0 V
  | r + 1 => rc_p f t V E (rc_k m f t V E r) m
noncomputable def rc_R (m : Nat) (f t : Nat → Nat) (V E : Nat → Bool) : Nat → Bool :=
  fun v => dm_b (dm_R m f t (fun x => V x = true) (fun i => E i = true) v)
section
variable {m n : Nat} {f t : Nat → Nat} {V E : Nat → Bool} {S : Nat → Bool}
theorem rc_R_t {v : Nat} : rc_R m f t V E v = true ↔ dm_R m f t (fun x => V x = true) (fun i => E i = true) v := dm_b_t
theorem rc_s_no {i : Nat} (h : (E i && V (t i) && S (f i)) = false) : rc_s f t V E S i = S := by
  funext x; unfold rc_s; rw [h]; simp
theorem rc_s_in {i : Nat} (h : S (t i) = true) : rc_s f t V E S i = S := by
  funext x; unfold rc_s
  by_cases e : x = t i
  · rw [e, h]; rfl
  · simp [e]
theorem rc_s_yes {i : Nat} (h1 : E i = true) (h2 : V (t i) = true) (h3 : S (f i) = true) (x : Nat) : rc_s f t V E S i x = (S x || decide (x = t i)) := by
  unfold rc_s; rw [h1, h2, h3]; rfl
theorem rc_s_sub {i x : Nat} (h : S x = true) : rc_s f t V E S i x = true := by unfold rc_s; rw [h]; rfl
theorem rc_p_sub {x : Nat} (h : S x = true) : ∀ i, rc_p f t V E S i x = true := by
  intro i
  induction i with
  | zero => exact h
  | succ i ih => exact rc_s_sub ih
theorem rc_p_up {x i : Nat} : ∀ d, rc_p f t V E S i x = true → rc_p f t V E S (i + d) x = true := by
  intro d h
  induction d with
  | zero => exact h
  | succ d ih => exact rc_s_sub ih
theorem rc_p_snd (hS : ∀ x, S x = true → rc_R m f t V E x = true) : ∀ i, i ≤ m → ∀ x, rc_p f t V E S i x = true → rc_R m f t V E x = true := by
  intro i
  induction i with
  | zero => exact fun _ => hS
  | succ i ih =>
    intro hi x hx
    have ih' := ih (by omega)
    have hx' : (rc_p f t V E S i x || (E i && V (t i) && rc_p f t V E S i (f i) && decide (x = t i))) = true := hx
    simp only [Bool.or_eq_true, Bool.and_eq_true, decide_eq_true_eq] at hx'
    cases hx' with
    | inl z => exact ih' x z
    | inr z =>
      obtain ⟨⟨⟨z1, z2⟩, z3⟩, z4⟩ := z
      rw [z4]
      exact rc_R_t.mpr (dm_step (show i < m by omega) z1 z2 (rc_R_t.mp (ih' _ z3)))
theorem rc_p_fix (h : ∀ x, rc_p f t V E S m x = S x) {i : Nat} (hi : i < m) (h1 : E i = true) (h2 : V (t i) = true) (h3 : S (f i) = true) : S (t i) = true := by
  have e : rc_p f t V E S (i + 1) (t i) = true := by
    show rc_s f t V E (rc_p f t V E S i) i (t i) = true
    rw [rc_s_yes h1 h2 (rc_p_sub h3 i)]; simp
  have e2 := rc_p_up (m - (i + 1)) e
  rw [show i + 1 + (m - (i + 1)) = m by omega, h] at e2
  exact e2
theorem rc_k_snd : ∀ r x, rc_k m f t V E r x = true → rc_R m f t V E x = true := by
  intro r
  induction r with
  | zero =>
    intro x hx
    have hx' : (V 0 && decide (x = 0)) = true := hx
    simp only [Bool.and_eq_true, decide_eq_true_eq] at hx'
    rw [hx'.2]
    exact rc_R_t.mpr (dm_root hx'.1)
  | succ r ih => exact rc_p_snd ih m (Nat.le_refl m)
theorem rc_k_sub {r x : Nat} (h : rc_k m f t V E r x = true) : rc_k m f t V E (r + 1) x = true := rc_p_sub h m
theorem rc_k_0 (h : V 0 = true) : ∀ r, rc_k m f t V E r 0 = true := by
  intro r
  induction r with
  | zero => show (V 0 && decide (0 = 0)) = true; rw [h]; rfl
  | succ r ih => exact rc_k_sub ih
theorem rc_k_fix {r : Nat} (h : ∀ x, rc_k m f t V E (r + 1) x = rc_k m f t V E r x) (x : Nat) : rc_k m f t V E r x = rc_R m f t V E x := by
  apply Bool.eq_iff_iff.mpr
  constructor
  · exact rc_k_snd r x
  · intro z
    exact dm_ind (fun x => rc_k m f t V E r x = true) (fun z => rc_k_0 z r) (fun i hi he hv _ hf => rc_p_fix h hi he hv hf) (rc_R_t.mp z)
theorem rc_R_no (h : V 0 = false) (x : Nat) : rc_R m f t V E x = false := by
  cases e : rc_R m f t V E x with
  | false => rfl
  | true =>
    exact absurd (dm_ind (fun _ => False) (fun z => by rw [h] at z; cases z) (fun _ _ _ _ _ z => z) (rc_R_t.mp e)) id
theorem rc_k_no (h : V 0 = false) (r x : Nat) : rc_k m f t V E r x = rc_R m f t V E x := by
  rw [rc_R_no h]
  cases e : rc_k m f t V E r x with
  | false => rfl
  | true => have := rc_k_snd r x e; rw [rc_R_no h] at this; cases this
theorem rc_R_lt (hn : 0 < n) (ht : ∀ i, i < m → t i < n) {v : Nat} (h : rc_R m f t V E v = true) : v < n := dm_lt hn ht (rc_R_t.mp h)
/-- what the rounds so far have gained -/
def rc_G (N m : Nat) (f t : Nat → Nat) (V E : Nat → Bool) (r : Nat) : Prop := V 0 = false ∨ r + 1 ≤ dm_c (rc_k m f t V E r) N
theorem rc_G_0 {N : Nat} (hN : 0 < N) : rc_G N m f t V E 0 := by
  cases h : V 0 with
  | false => exact Or.inl h
  | true =>
    refine Or.inr ?_
    have h1 := dm_c_lt (p := fun _ => false) (q := rc_k m f t V E 0) (j := 0) N hN (fun _ _ z => by cases z) rfl (rc_k_0 h 0)
    omega
theorem rc_G_s {N r : Nat} (hn : 0 < N) (ht : ∀ i, i < m → t i < N) (h : rc_G N m f t V E r) (hx : ∃ x, rc_k m f t V E (r + 1) x ≠ rc_k m f t V E r x) : rc_G N m f t V E (r + 1) := by
  cases h with
  | inl z => exact Or.inl z
  | inr z =>
    obtain ⟨x, hx⟩ := hx
    have h1 : rc_k m f t V E r x = false := by
      cases e : rc_k m f t V E r x with
      | false => rfl
      | true => exact absurd (rc_k_sub e) (by rw [e] at hx; exact hx)
    have h2 : rc_k m f t V E (r + 1) x = true := by
      cases e : rc_k m f t V E (r + 1) x with
      | true => rfl
      | false => rw [e, h1] at hx; exact absurd rfl hx
    have h3 := dm_c_lt (p := rc_k m f t V E r) (q := rc_k m f t V E (r + 1)) N (rc_R_lt hn ht (rc_k_snd _ _ h2)) (fun i _ z => rc_k_sub z) h1 h2
    exact Or.inr (by omega)
theorem rc_G_x {N r : Nat} (h : rc_G N m f t V E r) (hr : N ≤ r) (x : Nat) : rc_k m f t V E r x = rc_R m f t V E x := by
  cases h with
  | inl z => exact rc_k_no z r x
  | inr z => have := dm_c_le (rc_k m f t V E r) N; omega
end
/-! the graph in numbers: what is kept off is named by an int -/
def gx_v (p : Int32) : Nat → Bool := fun v => decide (¬ nI v = p)
noncomputable def gx_R (m : Nat) (f t : Nat → Nat) (p q : Int32) (v : Nat) : Bool := rc_R m f t (gx_v p) (gx_v q) v
noncomputable def gx_L (m : Nat) (f t : Nat → Nat) (v : Nat) : Bool := gx_R m f t (-1) (-1) v
noncomputable def gx_O (m : Nat) (f t : Nat → Nat) (u v : Nat) : Bool := gx_L m f t v && !gx_R m f t (nI u) (-1) v
noncomputable def gx_d (n m : Nat) (f t : Nat → Nat) (v : Nat) : Nat := dm_c (fun u => gx_O m f t u v) n
/-- the edges as both sides keep them -/
def gx_k (n m : Nat) (f t : Nat → Nat) (a b : Nat → Int32) : Prop :=
  2 ≤ n ∧ n ≤ 24 ∧ m ≤ 60 ∧ ∀ i, i < m → f i < n ∧ t i < n ∧ a i = nI (f i) ∧ b i = nI (t i)
theorem gx_m1 {j : Nat} (h : j < 2 ^ 31) : ¬ nI j = -1 := by
  intro e
  have h1 := nI_toInt h
  rw [e] at h1
  have h2 : (-1 : Int32).toInt = -1 := by decide
  omega
theorem gx_v_t {p : Int32} {v : Nat} : gx_v p v = true ↔ ¬ nI v = p := by unfold gx_v; exact decide_eq_true_iff
theorem gx_v_f {p : Int32} {v : Nat} : gx_v p v = false ↔ nI v = p := by unfold gx_v; rw [decide_eq_false_iff_not, Classical.not_not]
section
variable {n m : Nat} {f t : Nat → Nat} {a b : Nat → Int32}
theorem gx_L_r (K : gx_k n m f t a b) {v : Nat} : gx_L m f t v = true ↔ dm_r m f t v := by
  obtain ⟨h1, h2, h3, h4⟩ := K
  unfold gx_L gx_R
  rw [rc_R_t]
  constructor
  · exact dm_mono (fun _ => trivial) (fun _ _ _ => trivial) (fun _ _ _ => trivial)
  · refine dm_mono (fun _ => gx_v_t.mpr (gx_m1 (by omega))) (fun i hi _ => gx_v_t.mpr (gx_m1 ?_)) (fun i hi _ => gx_v_t.mpr (gx_m1 ?_))
    · have := (h4 i hi).2.1; omega
    · omega
theorem gx_R_a (K : gx_k n m f t a b) {u v : Nat} (hu : u < n) : gx_R m f t (nI u) (-1) v = true ↔ dm_a m f t u v := by
  obtain ⟨h1, h2, h3, h4⟩ := K
  unfold gx_R
  rw [rc_R_t]
  have hx : ∀ x, x < n → (gx_v (nI u) x = true ↔ x ≠ u) := fun x hx => by
    rw [gx_v_t, nI_eq (by omega) (by omega)]
  constructor
  · exact dm_mono (fun z => (hx 0 (by omega)).mp z) (fun i hi z => (hx _ (h4 i hi).2.1).mp z) (fun _ _ _ => trivial)
  · exact dm_mono (fun z => (hx 0 (by omega)).mpr z) (fun i hi z => (hx _ (h4 i hi).2.1).mpr z) (fun i hi _ => gx_v_t.mpr (gx_m1 (by omega)))
theorem gx_O_D (K : gx_k n m f t a b) {u v : Nat} (hu : u < n) : gx_O m f t u v = true ↔ dm_D m f t u v := by
  unfold gx_O dm_D
  rw [Bool.and_eq_true, gx_L_r K, Bool.not_eq_true', ← Bool.not_eq_true, gx_R_a K hu]
theorem gx_R_lt (K : gx_k n m f t a b) {p q : Int32} {v : Nat} (h : gx_R m f t p q v = true) : v < n :=
  rc_R_lt (by have := K.1; omega) (fun i hi => (K.2.2.2 i hi).2.1) h
theorem gx_L_lt (K : gx_k n m f t a b) {v : Nat} (h : gx_L m f t v = true) : v < n := gx_R_lt K h
theorem gx_O_L {u v : Nat} (h : gx_O m f t u v = true) : gx_L m f t v = true := by
  unfold gx_O at h; rw [Bool.and_eq_true] at h; exact h.1
theorem gx_O_no {u v : Nat} (h : gx_L m f t v = false) : gx_O m f t u v = false := by unfold gx_O; rw [h]; rfl
theorem gx_d_no {v : Nat} (h : gx_L m f t v = false) : gx_d n m f t v = 0 := by
  have h1 : dm_c (fun u => gx_O m f t u v) n ≤ dm_c (fun _ => false) n := dm_c_mono n (fun u _ z => by rw [gx_O_no h] at z; cases z)
  have h2 : ∀ k, dm_c (fun _ => false) k = 0 := by
    intro k
    induction k with
    | zero => rfl
    | succ k ih => show dm_c (fun _ => false) k + (if false = true then 1 else 0) = 0; rw [ih]; rfl
  rw [h2] at h1
  unfold gx_d; omega
theorem gx_d_d (K : gx_k n m f t a b) (v : Nat) : gx_d n m f t v = dm_d n m f t v :=
  dm_c_congr n (fun u hu => by rw [gx_O_D K hu, dm_b_t])
theorem gx_d_le (v : Nat) : gx_d n m f t v ≤ n := dm_c_le _ n
end
