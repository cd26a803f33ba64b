/-! the first of those with the most: best and most so far -/
def gx_p (P : Nat → Bool) (d : Nat → Nat) (b0 : Int32) : Nat → Int32 × Nat
  | 0 => (b0, 0)
  | k + 1 => if P k = true ∧ (gx_p P d b0 k).2 < d k then (nI k, d k) else gx_p P d b0 k
theorem gx_p_y {P : Nat → Bool} {d : Nat → Nat} {b0 : Int32} {k : Nat} (h1 : P k = true) (h2 : (gx_p P d b0 k).2 < d k) : gx_p P d b0 (k + 1) = (nI k, d k) := if_pos ⟨h1, h2⟩
theorem gx_p_n1 {P : Nat → Bool} {d : Nat → Nat} {b0 : Int32} {k : Nat} (h : P k = false) : gx_p P d b0 (k + 1) = gx_p P d b0 k := if_neg (fun z => by rw [h] at z; exact absurd z.1 (by decide))
theorem gx_p_n2 {P : Nat → Bool} {d : Nat → Nat} {b0 : Int32} {k : Nat} (h : d k ≤ (gx_p P d b0 k).2) : gx_p P d b0 (k + 1) = gx_p P d b0 k := if_neg (fun z => by omega)
theorem gx_p_congr {P Q : Nat → Bool} {d : Nat → Nat} {b0 : Int32} : ∀ k, (∀ u, u < k → P u = Q u) → gx_p P d b0 k = gx_p Q d b0 k := by
  intro k
  induction k with
  | zero => exact fun _ => rfl
  | succ k ih =>
    intro h
    have h1 := ih (fun u hu => h u (by omega))
    show (if P k = true ∧ (gx_p P d b0 k).2 < d k then (nI k, d k) else gx_p P d b0 k) = (if Q k = true ∧ (gx_p Q d b0 k).2 < d k then (nI k, d k) else gx_p Q d b0 k)
    rw [h1, h k (by omega)]
theorem gx_p_base {P : Nat → Bool} {d : Nat → Nat} {b0 b1 : Int32} : ∀ k, (gx_p P d b0 k).2 = (gx_p P d b1 k).2 ∧ ((gx_p P d b0 k).2 = 0 ∨ (gx_p P d b0 k).1 = (gx_p P d b1 k).1) := by
  intro k
  induction k with
  | zero => exact ⟨rfl, Or.inl rfl⟩
  | succ k ih =>
    cases hp : P k with
    | false => rw [gx_p_n1 hp, gx_p_n1 hp]; exact ih
    | true =>
      by_cases h2 : (gx_p P d b0 k).2 < d k
      · rw [gx_p_y hp h2, gx_p_y hp (by rw [← ih.1]; exact h2)]; exact ⟨rfl, Or.inr rfl⟩
      · rw [gx_p_n2 (by omega), gx_p_n2 (by rw [← ih.1]; omega)]; exact ih
theorem gx_p_spec {P : Nat → Bool} {d : Nat → Nat} {b0 : Int32} : ∀ k, (∀ u, u < k → P u = true → d u ≤ (gx_p P d b0 k).2) ∧ ((gx_p P d b0 k).2 = 0 ∨ ∃ x, x < k ∧ P x = true ∧ gx_p P d b0 k = (nI x, d x)) := by
  intro k
  induction k with
  | zero => exact ⟨fun u hu => absurd hu (by omega), Or.inl rfl⟩
  | succ k ih =>
    have hx : ((gx_p P d b0 k).2 = 0 ∨ ∃ x, x < k + 1 ∧ P x = true ∧ gx_p P d b0 k = (nI x, d x)) :=
      ih.2.elim Or.inl (fun ⟨x, h1, h2, h3⟩ => Or.inr ⟨x, by omega, h2, h3⟩)
    cases hp : P k with
    | false =>
      rw [gx_p_n1 hp]
      refine ⟨fun u hu hu2 => ?_, hx⟩
      by_cases e : u = k
      · rw [e, hp] at hu2; cases hu2
      · exact ih.1 u (by omega) hu2
    | true =>
      by_cases h2 : (gx_p P d b0 k).2 < d k
      · rw [gx_p_y hp h2]
        refine ⟨fun u hu hu2 => ?_, Or.inr ⟨k, by omega, hp, rfl⟩⟩
        by_cases e : u = k
        · rw [e]; exact Nat.le_refl _
        · have := ih.1 u (by omega) hu2
          show d u ≤ d k
          omega
      · rw [gx_p_n2 (by omega)]
        refine ⟨fun u hu hu2 => ?_, hx⟩
        by_cases e : u = k
        · rw [e]; omega
        · exact ih.1 u (by omega) hu2
/-- the others of v's dominators -/
noncomputable def gx_o (m : Nat) (f t : Nat → Nat) (v : Nat) : Nat → Bool := fun u => decide (u ≠ v) && gx_O m f t u v
section
variable {n m : Nat} {f t : Nat → Nat} {a b : Nat → Int32}
theorem gx_o_t (K : gx_k n m f t a b) {u v : Nat} (hu : u < n) : gx_o m f t v u = true ↔ u ≠ v ∧ dm_D m f t u v := by
  unfold gx_o; rw [Bool.and_eq_true, decide_eq_true_iff, gx_O_D K hu]
/-- a reachable vertex but the root has an immediate dominator, and the pick finds it -/
theorem gx_idom (K : gx_k n m f t a b) {v : Nat} (hv : v ≠ 0) (hL : gx_L m f t v = true) (b0 : Int32) :
    ∃ x, x < n ∧ gx_p (gx_o m f t v) (gx_d n m f t) b0 n = (nI x, gx_d n m f t x) ∧ dm_I m f t x v := by
  have hr := (gx_L_r K).mp hL
  have h0 : gx_o m f t v 0 = true := (gx_o_t K (by have := K.1; omega)).mpr ⟨fun e => hv e.symm, dm_D0 hr⟩
  have hd0 : 0 < gx_d n m f t 0 := by rw [gx_d_d K]; exact dm_d_pos (by have := K.1; omega) dm_r0
  obtain ⟨h1, h2⟩ := gx_p_spec (P := gx_o m f t v) (d := gx_d n m f t) (b0 := b0) n
  have h3 := h1 0 (by have := K.1; omega) h0
  cases h2 with
  | inl z => omega
  | inr z =>
    obtain ⟨x, hx, hp, e⟩ := z
    refine ⟨x, hx, e, ?_⟩
    have hx2 := (gx_o_t K hx).mp hp
    have hlt : ∀ a, dm_D m f t a v → a < n := fun a ha => gx_L_lt K ((gx_L_r K).mpr (dm_Dr ha))
    refine dm_I_max hx hlt hx2.2 hx2.1 (fun a ha na => ?_)
    have h4 := h1 a (hlt a ha) ((gx_o_t K (hlt a ha)).mpr ⟨na, ha⟩)
    rw [e] at h4
    rw [← gx_d_d K, ← gx_d_d K]
    exact h4
theorem gx_idom2 (K : gx_k n m f t a b) {v : Nat} (hv : v ≠ 0) (hL : gx_L m f t v = true) (b0 b1 : Int32) :
    (gx_p (gx_o m f t v) (gx_d n m f t) b0 n).1 = (gx_p (gx_o m f t v) (gx_d n m f t) b1 n).1 := by
  obtain ⟨x, hx, e, hI⟩ := gx_idom K hv hL b0
  have h := gx_p_base (P := gx_o m f t v) (d := gx_d n m f t) (b0 := b0) (b1 := b1) n
  cases h.2 with
  | inr z => exact z
  | inl z =>
    rw [e] at z
    have hp : 0 < gx_d n m f t x := by rw [gx_d_d K]; exact dm_d_pos hx (dm_Dr hI.1)
    exact absurd z (by show ¬ gx_d n m f t x = 0; omega)
/-- whose immediate dominator u is -/
noncomputable def gx_c (n m : Nat) (f t : Nat → Nat) (u : Nat) : Nat → Bool := fun v => gx_O m f t u v && decide (gx_d n m f t v = gx_d n m f t u + 1)
theorem gx_child (K : gx_k n m f t a b) {u v : Nat} (hu : u < n) (hv : v ≠ 0) (hL : gx_L m f t v = true) :
    ((gx_p (gx_o m f t v) (gx_d n m f t) (-1) n).1 = nI u) ↔ gx_c n m f t u v = true := by
  have hvn := gx_L_lt K hL
  obtain ⟨x, hx, e, hI⟩ := gx_idom K hv hL (-1)
  have hlt : ∀ a, dm_D m f t a v → a < n := fun a ha => gx_L_lt K ((gx_L_r K).mpr (dm_Dr ha))
  rw [e]
  unfold gx_c
  rw [Bool.and_eq_true, decide_eq_true_iff, gx_O_D K hu, gx_d_d K v, gx_d_d K u]
  show nI x = nI u ↔ _
  have hn := K.2.1
  rw [nI_eq (by omega) (by omega)]
  constructor
  · intro z
    rw [← z]
    exact ⟨hI.1, dm_I_d hvn hI⟩
  · intro z
    exact dm_I_uniq hI (dm_I_of hvn hu hlt z.1 z.2)
theorem gx_child0 (K : gx_k n m f t a b) {u : Nat} (hu : u < n) : gx_c n m f t u 0 = false := by
  cases e : gx_c n m f t u 0 with
  | false => rfl
  | true =>
    unfold gx_c at e
    rw [Bool.and_eq_true, decide_eq_true_iff, gx_O_D K hu] at e
    have h := dm_anti e.1 (dm_D0 (dm_Dr e.1))
    rw [h] at e
    omega
theorem gx_childn {u v : Nat} (hL : gx_L m f t v = false) : gx_c n m f t u v = false := by unfold gx_c; rw [gx_O_no hL]; rfl
/-- the greatest depth so far -/
noncomputable def gx_h (d : Nat → Nat) : Nat → Nat
  | 0 => 0
  | k + 1 => if d k ≤ gx_h d k then gx_h d k else d k
theorem gx_h_le {d : Nat → Nat} {N : Nat} (h : ∀ v, d v ≤ N) : ∀ k, gx_h d k ≤ N := by
  intro k
  induction k with
  | zero => exact Nat.zero_le _
  | succ k ih => show (if d k ≤ gx_h d k then gx_h d k else d k) ≤ N; split; exact ih; exact h k
/-- an edge that is needed -/
noncomputable def gx_b (m : Nat) (f t : Nat → Nat) (i : Nat) : Bool := dm_b (∃ v, gx_L m f t v = true ∧ gx_R m f t (-1) (nI i) v = false)
theorem gx_R_L {p q : Int32} {v : Nat} (K : gx_k n m f t a b) (h : gx_R m f t p q v = true) : gx_L m f t v = true :=
  (gx_L_r K).mpr (dm_mono (fun _ => trivial) (fun _ _ _ => trivial) (fun _ _ _ => trivial) (rc_R_t.mp h))
theorem gx_p_le (P : Nat → Bool) (b0 : Int32) (k : Nat) : (gx_p P (gx_d n m f t) b0 k).2 ≤ n := by
  induction k with
  | zero => exact Nat.zero_le _
  | succ k ih =>
    show (if P k = true ∧ (gx_p P (gx_d n m f t) b0 k).2 < gx_d n m f t k then (nI k, gx_d n m f t k) else gx_p P (gx_d n m f t) b0 k).2 ≤ n
    split
    · exact gx_d_le k
    · exact ih
end
