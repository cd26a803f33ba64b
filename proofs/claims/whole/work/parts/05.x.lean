/-! the component's own methods, each with a general post -/
theorem gx_cl {n : Nat} (h : n < 2 ^ 31) : (nI n).toNatClampNeg = n := nI_clamp h
section
variable {n m : Nat} {f t : Nat → Nat} {a b : Nat → Int32}
theorem xe_bad {post : Int32 → Prop} {e : Int32} {p : Int32} (h : p < 0 ∨ nI n ≤ p) (hp : post 0) : wpX_isGood post (nI n, e, a, b) p := by
  by_cases z : p < 0
  · exact br_t z hp
  · exact br_f z (br_t (h.resolve_left z) hp)
theorem xe_ok {post : Int32 → Prop} {e : Int32} {j : Nat} (hj : j < n) (hn : n ≤ 24) (hp : post 1) : wpX_isGood post (nI n, e, a, b) (nI j) :=
  br_f (nI_pos (by omega)) (br_f (nI_ge hj (by omega)) hp)
theorem xe_pbad {post : Int32 → Prop} {e : Int32} {p : Int32} (h : p < 0 ∨ nI m ≤ p) (hp : post 0) : wpX_isPosition post (e, nI m, a, b) p := by
  by_cases z : p < 0
  · exact br_t z hp
  · exact br_f z (br_t (h.resolve_left z) hp)
theorem xe_pok {post : Int32 → Prop} {e : Int32} {j : Nat} (hj : j < m) (hn : m ≤ 60) (hp : post 1) : wpX_isPosition post (e, nI m, a, b) (nI j) :=
  br_f (nI_pos (by omega)) (br_f (nI_ge hj (by omega)) hp)
/-- a mask is a set -/
def xe_k (x : Int32) (S : Nat → Bool) : Prop := ∀ v, v < 32 → bt x v = S v
theorem xe_k_eq {x y : Int32} {S : Nat → Bool} (h1 : xe_k x S) (h2 : xe_k y S) : x = y := b_ext (fun v hv => (h1 v hv).trans (h2 v hv).symm)
theorem xe_in (K : gx_k n m f t a b) {post : Int32 → Prop} {J13 : Int32 → Int32 → Prop} {p q x4 x5 : Int32} {S : Nat → Bool}
    (hx : ∀ y, xe_k y (rc_p f t (gx_v p) (gx_v q) S m) → ((y = x5 → post y) ∧ (¬ y = x5 → ∀ z : Int32, z = x4 + 1 → J13 y z))) (x3 : Int32) (h0 : xe_k x3 S) :
    ∃ k, wX_reachedWithout_28 post J13 p q x4 x5 (nI n) (nI m) a b k x3 0 := by
  refine loop_0 (fun k i (y : Int32) => wX_reachedWithout_28 post J13 p q x4 x5 (nI n) (nI m) a b k y (nI i)) (fun i y => xe_k y (rc_p f t (gx_v p) (gx_v q) S i)) m x3 h0 ?_ ?_
  · intro k y hy
    exact br_t (nI_le (Nat.le_refl m) (by have := K.2.2.1; omega)) (hx y hy)
  · intro k i y hi hy hk
    have hm := K.2.2.1
    have hn := K.2.1
    obtain ⟨hf, ht, ea, eb⟩ := K.2.2.2 i hi
    have hin : vp_in (nI i) 60 := vp_in_nI (by omega) (by omega)
    have hc : (nI i).toNatClampNeg = i := nI_clamp (by omega)
    have hnext : xe_k y (rc_p f t (gx_v p) (gx_v q) S (i + 1)) → ∀ z : Int32, z = nI i + 1 → wX_reachedWithout_28 post J13 p q x4 x5 (nI n) (nI m) a b k y z :=
      fun h => nm_r (nI_1 i) (hk y h)
    have h59 : ∀ z0 : Int32, (z0 = 0 ∧ (gx_v q i && gx_v p (t i)) = false ∨ z0 = 1 ∧ gx_v q i = true ∧ gx_v p (t i) = true) →
        wX_reachedWithout_59 post J13 (wX_reachedWithout_28 post J13 p q x4 x5 (nI n) (nI m) a b k) p q y x4 x5 (nI i) z0 (nI n) (nI m) a b := by
      intro z0 hz
      refine ⟨hin, ?_⟩
      rw [hc, ea]
      refine ek_if (gb_test y (f i) (by omega)) (fun hs => ?_) (fun hs => ?_)
      · cases hz with
        | inl z =>
          rw [z.1]
          refine br_t rfl (hnext ?_)
          show xe_k y (rc_s f t (gx_v p) (gx_v q) (rc_p f t (gx_v p) (gx_v q) S i) i)
          rw [rc_s_no (by rw [z.2]; rfl)]; exact hy
        | inr z =>
          rw [z.1]
          refine br_f (by decide) (br_f (by decide) ⟨hin, nm_e ?_⟩)
          refine nm_r (nI_1 i) (hk _ ?_)
          intro v hv
          show _ = rc_s f t (gx_v p) (gx_v q) (rc_p f t (gx_v p) (gx_v q) S i) i v
          rw [hc, eb, gb_set y (t i) (by omega) v hv, rc_s_yes z.2.1 z.2.2 ((hy (f i) (by omega)).symm.trans hs), hy v hv]
      · have hno : xe_k y (rc_p f t (gx_v p) (gx_v q) S (i + 1)) := by
          show xe_k y (rc_s f t (gx_v p) (gx_v q) (rc_p f t (gx_v p) (gx_v q) S i) i)
          rw [rc_s_no ?_]; exact hy
          rw [← hy (f i) (by omega), Bool.not_eq_true _ |>.mp hs, Bool.and_false]
        have h0 : ∀ z0 : Int32, wX_reachedWithout_81 post J13 (wX_reachedWithout_28 post J13 p q x4 x5 (nI n) (nI m) a b k) p q y x4 x5 (nI i) z0 0 (nI n) (nI m) a b :=
          fun z0 => br_c (fun _ => hnext hno) (fun _ => br_t rfl (hnext hno))
        exact h0 z0
    refine br_f (nI_ge hi (by omega)) (br_c (fun h => h59 0 (Or.inl ⟨rfl, ?_⟩)) (fun h => ⟨hin, ?_⟩))
    · rw [gx_v_f.mpr h]; rfl
    · rw [hc, eb]
      refine br_c (fun h2 => h59 0 (Or.inl ⟨rfl, ?_⟩)) (fun h2 => h59 1 (Or.inr ⟨rfl, gx_v_t.mpr h, gx_v_t.mpr h2⟩))
      rw [gx_v_f.mpr h2, Bool.and_false]
theorem xe_out (K : gx_k n m f t a b) {post : Int32 → Prop} {p q : Int32} (hp : ∀ r, xe_k r (gx_R m f t p q) → post r) (x3 : Int32) (h0 : xe_k x3 (rc_0 (gx_v p))) :
    ∃ k, wX_reachedWithout_13 post p q (nI n) (nI m) a b k x3 0 := by
  have hn := K.2.1
  have hn2 := K.1
  refine loop_0 (fun k r (y : Int32) => wX_reachedWithout_13 post p q (nI n) (nI m) a b k y (nI r)) (fun r y => xe_k y (rc_k m f t (gx_v p) (gx_v q) r) ∧ rc_G n m f t (gx_v p) (gx_v q) r) n x3 ⟨h0, rc_G_0 (by omega)⟩ ?_ ?_
  · intro k y hy
    exact br_t (nI_le (Nat.le_refl n) (by omega)) (hp y (fun v hv => (hy.1 v hv).trans (rc_G_x hy.2 (Nat.le_refl n) v)))
  · intro k r y hr hy hk
    refine br_f (nI_ge hr (by omega)) (xe_in K (fun y' hy' => ?_) y hy.1)
    have hy2 : xe_k y' (rc_k m f t (gx_v p) (gx_v q) (r + 1)) := hy'
    have hbig : ∀ x, ¬ x < 32 → rc_k m f t (gx_v p) (gx_v q) (r + 1) x = rc_k m f t (gx_v p) (gx_v q) r x := by
      intro x hx
      have h1 : ∀ r, rc_k m f t (gx_v p) (gx_v q) r x = false := fun r => by
        cases e : rc_k m f t (gx_v p) (gx_v q) r x with
        | false => rfl
        | true => exact absurd (rc_R_lt (n := n) (by omega) (fun i hi => (K.2.2.2 i hi).2.1) (rc_k_snd r x e)) (by omega)
      rw [h1, h1]
    refine br_c (fun e => ?_) (fun e => ?_)
    · refine hp y' (fun v hv => ?_)
      rw [hy2 v hv]
      have hfix : ∀ x, rc_k m f t (gx_v p) (gx_v q) (r + 1) x = rc_k m f t (gx_v p) (gx_v q) r x := by
        intro x
        by_cases hx : x < 32
        · rw [← hy2 x hx, ← hy.1 x hx, e]
        · exact hbig x hx
      rw [hfix]
      exact rc_k_fix hfix v
    · refine nm_r (nI_1 r) (hk y' ⟨hy2, rc_G_s (by omega) (fun i hi => (K.2.2.2 i hi).2.1) hy.2 ?_⟩)
      apply Classical.byContradiction
      intro no
      apply e
      refine b_ext (fun v hv => ?_)
      rw [hy2 v hv, hy.1 v hv]
      exact Classical.byContradiction (fun z => no ⟨v, z⟩)
theorem xe_reach (K : gx_k n m f t a b) {post : Int32 → Prop} {p q : Int32} (hp : ∀ r, xe_k r (gx_R m f t p q) → post r) :
    wpX_reachedWithout post (nI n, nI m, a, b) p q := by
  refine br_c (fun h => xe_out K hp 0 ?_) (fun h => xe_out K hp 1 ?_)
  · intro v hv
    show _ = (gx_v p 0 && decide (v = 0))
    rw [gx_v_f.mpr (show nI 0 = p by rw [h]; rfl), b_0]; rfl
  · intro v hv
    show _ = (gx_v p 0 && decide (v = 0))
    rw [gx_v_t.mpr (show ¬ nI 0 = p from fun e => h (e.symm.trans rfl)), gb_1 v hv]; rfl
end
theorem xe_con_t {post : Int32 → Prop} {x : Int32} {v : Nat} (hv : v < 32) (h : bt x v = true) (hp : post 1) : wpX_contains post x (nI v) :=
  br_t ((gb_test x v hv).mpr h) hp
theorem xe_con_f {post : Int32 → Prop} {x : Int32} {v : Nat} (hv : v < 32) (h : bt x v = false) (hp : post 0) : wpX_contains post x (nI v) :=
  br_f (fun z => by rw [(gb_test x v hv).mp z] at h; cases h) hp
