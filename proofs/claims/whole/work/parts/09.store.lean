/-! the relation, and the methods that store -/
def i_Rel (_ : Nat) (u : SX) (v : SY) : Prop :=
  ∃ (n m : Nat) (f t : Nat → Nat) (a b s l o : Nat → Int32), gx_k n m f t a b ∧ u = (nI n, nI m, a, b) ∧ v = (nI n, nI m, a, b, s, l, o)
theorem gx_rel {n m : Nat} {f t : Nat → Nat} {a b s l o : Nat → Int32} (K : gx_k n m f t a b) (k : Nat) : i_Rel k (nI n, nI m, a, b) (nI n, nI m, a, b, s, l, o) :=
  ⟨n, m, f, t, a, b, s, l, o, K, rfl, rfl⟩
theorem i_up {k : Nat} {u : SX} {v : SY} (h : i_Rel k u v) : i_Rel (k + 3) u v := h
theorem gx_k0 {n : Nat} (h1 : 2 ≤ n) (h2 : n ≤ 24) : gx_k n 0 (fun _ => 0) (fun _ => 0) (fun _ => 0) (fun _ => 0) :=
  ⟨h1, h2, by omega, fun i hi => absurd hi (by omega)⟩
theorem i_vc0 (k0 : Int32) : wpX_init (fun u => wpY_init (fun v => i_Rel 1 u v) k0) k0 := by
  by_cases h2 : 2 ≤ k0
  · refine br_t h2 ?_
    by_cases h24 : k0 ≤ 24
    · refine br_t h24 (br_t h2 (br_t h24 ?_))
      obtain ⟨j, hj, e⟩ := nI_of2 (x := k0) (M := 24) (n := 24) (by decide) (fun z => by
        have h3 := Int32.lt_of_le_of_lt h2 z
        exact absurd h3 (by decide)) h24
      have h3 : 2 ≤ j := by
        rw [e, show (2 : Int32) = nI 2 from rfl, nI_leI (by omega) (by omega)] at h2
        exact h2
      rw [e]
      exact gx_rel (gx_k0 h3 hj) 1
    · exact br_f h24 (br_t h2 (br_f h24 (gx_rel (gx_k0 (n := 24) (by omega) (by omega)) 1)))
  · exact br_f h2 (br_t (by decide) (br_f h2 (gx_rel (gx_k0 (n := 2) (by omega) (by omega)) 1)))
theorem i_vc_vertices {k : Nat} {u : SX} {v : SY} (I : i_Rel k u v) (hk : k + 3 ≤ 1537) : wpX_vertices (fun r => wpY_vertices (fun r' => r' = r ∧ i_Rel (k + 3) u v) v) u := by
  obtain ⟨n, m, f, t, a, b, s, l, o, K, rfl, rfl⟩ := I
  exact ⟨rfl, gx_rel K _⟩
theorem i_vc_edges {k : Nat} {u : SX} {v : SY} (I : i_Rel k u v) (hk : k + 3 ≤ 1537) : wpX_edges (fun r => wpY_edges (fun r' => r' = r ∧ i_Rel (k + 3) u v) v) u := by
  obtain ⟨n, m, f, t, a, b, s, l, o, K, rfl, rfl⟩ := I
  exact ⟨rfl, gx_rel K _⟩
theorem gx_ix {n : Nat} (hn : n ≤ 60) (x : Int32) : (x < 0 ∨ nI n ≤ x) ∨ ∃ j, j < n ∧ x = nI j := by
  rcases pk_ix x (n := n) (by omega) with h | h | h
  · exact Or.inl (Or.inl h)
  · exact Or.inl (Or.inr h)
  · exact Or.inr h
theorem gx_klink {n m : Nat} {f t : Nat → Nat} {a b : Nat → Int32} (K : gx_k n m f t a b) (hm : m < 60) {j1 j2 : Nat} (h1 : j1 < n) (h2 : j2 < n) :
    gx_k n (m + 1) (fun i => if i = m then j1 else f i) (fun i => if i = m then j2 else t i) (upd a m (nI j1)) (upd b m (nI j2)) := by
  refine ⟨K.1, K.2.1, by omega, fun i hi => ?_⟩
  dsimp only
  by_cases e : i = m
  · rw [if_pos e, if_pos e, e, pk_us, pk_us]
    exact ⟨h1, h2, rfl, rfl⟩
  · rw [if_neg e, if_neg e, pk_un e, pk_un e]
    exact K.2.2.2 i (by omega)
theorem i_vc_link {k : Nat} {u : SX} {v : SY} (I : i_Rel k u v) (hk : k + 3 ≤ 1537) (v1 : Int32) (v2 : Int32) : wpX_link (fun r u' => wpY_link (fun r' v' => r' = r ∧ i_Rel (k + 3) u' v') v v1 v2) u v1 v2 := by
  obtain ⟨n, m, f, t, a, b, s, l, o, K, rfl, rfl⟩ := I
  have hn := K.2.1
  have hm := K.2.2.1
  unfold wpX_link wpY_link
  dsimp only
  rcases gx_ix (n := n) (by omega) v1 with h | ⟨j1, hj1, rfl⟩
  · exact xe_bad h (br_t rfl (ye_bad h (br_f (by decide) ⟨rfl, gx_rel K _⟩)))
  · refine xe_ok hj1 hn (br_f (by decide) ?_)
    rcases gx_ix (n := n) (by omega) v2 with h | ⟨j2, hj2, rfl⟩
    · exact xe_bad h (br_t rfl (ye_ok hj1 hn (br_t rfl (ye_bad h (br_f (by decide) ⟨rfl, gx_rel K _⟩)))))
    · refine xe_ok hj2 hn (br_f (by decide) ?_)
      have hc : (nI m).toNatClampNeg = m := nI_clamp (by omega)
      by_cases h : m < 60
      · have hin : vp_in (nI m) 60 := vp_in_nI h (by decide)
        have hlt : nI m < 60 := nI_lt (b := 60) h (by decide)
        rw [hc]
        refine br_t hlt ⟨hin, nm_e ⟨hin, nm_e (nm_r (nI_1 m) ?_)⟩⟩
        refine ye_ok hj1 hn (br_t rfl (ye_ok hj2 hn (br_t rfl (br_t hlt ⟨hin, nm_e ⟨hin, nm_e (nm_r (nI_1 m) ⟨rfl, ?_⟩)⟩⟩))))
        exact gx_rel (gx_klink K h hj1 hj2) _
      · have hge : ¬ nI m < 60 := nI_nlt (b := 60) (by omega) (by omega)
        exact br_f hge (ye_ok hj1 hn (br_t rfl (ye_ok hj2 hn (br_t rfl (br_f hge ⟨rfl, gx_rel K _⟩)))))
/-- the cells from c to j moved down by one -/
def gx_cut (a : Nat → Int32) (c j : Nat) : Nat → Int32 := fun i => if c ≤ i ∧ i < j then a (i + 1) else a i
theorem gx_cut0 (a : Nat → Int32) (c : Nat) : gx_cut a c c = a := by
  funext i
  exact if_neg (by omega)
theorem gx_cut1 (a : Nat → Int32) {c j : Nat} (h : c ≤ j) : upd (gx_cut a c j) j (gx_cut a c j (j + 1)) = gx_cut a c (j + 1) := by
  funext i
  by_cases e : i = j
  · subst e
    rw [pk_us]
    unfold gx_cut
    rw [if_neg (by omega), if_pos (by omega)]
  · rw [pk_un e]
    unfold gx_cut
    by_cases z : c ≤ i ∧ i < j
    · rw [if_pos z, if_pos (by omega)]
    · rw [if_neg z, if_neg (by omega)]
theorem gx_kcut {n m : Nat} {f t : Nat → Nat} {a b : Nat → Int32} (K : gx_k n (m + 1) f t a b) (c : Nat) :
    gx_k n m (fun i => if c ≤ i then f (i + 1) else f i) (fun i => if c ≤ i then t (i + 1) else t i) (gx_cut a c m) (gx_cut b c m) := by
  refine ⟨K.1, K.2.1, by have := K.2.2.1; omega, fun i hi => ?_⟩
  unfold gx_cut
  dsimp only
  by_cases z : c ≤ i
  · rw [if_pos z, if_pos z, if_pos ⟨z, hi⟩, if_pos ⟨z, hi⟩]
    exact K.2.2.2 (i + 1) (by omega)
  · rw [if_neg z, if_neg z, if_neg (fun y => z y.1), if_neg (fun y => z y.1)]
    exact K.2.2.2 i (by omega)
theorem xe_cut {m c : Nat} {a b : Nat → Int32} {e : Int32} (hm : m + 1 ≤ 60) (hc : c ≤ m) {post : Int32 → SX → Prop} (hp : post (nI m) (e, nI m, gx_cut a c m, gx_cut b c m)) :
    ∃ k, wX_cut_14 post e (nI (m + 1)) k (nI (c + 1)) a b := by
  refine pk_loop (fun k j (w : (Nat → Int32) × (Nat → Int32)) => wX_cut_14 post e (nI (m + 1)) k (nI (j + 1)) w.1 w.2) (fun j w => c ≤ j ∧ w = (gx_cut a c j, gx_cut b c j)) m c (a, b) hc ⟨Nat.le_refl c, ?_⟩ ?_ ?_
  · rw [gx_cut0, gx_cut0]
  · intro k w hw
    rw [hw.2]
    exact br_t (nI_le (Nat.le_refl _) (by omega)) (nm_r (nI_pred m) hp)
  · intro k j w hj hw hk
    rw [hw.2]
    have hin : vp_in (nI (j + 1)) 60 := vp_in_nI (by omega) (by decide)
    have hin2 : vp_in (nI j) 60 := vp_in_nI (by omega) (by decide)
    have hc1 : (nI (j + 1)).toNatClampNeg = j + 1 := nI_clamp (by omega)
    have hc2 : (nI j).toNatClampNeg = j := nI_clamp (by omega)
    refine br_f (nI_ge (a := j + 1) (b := m + 1) (by omega) (by omega)) ⟨hin, ?_⟩
    rw [nI_pred, hc1, hc2]
    refine ⟨hin2, nm_r (gx_cut1 a hw.1) ⟨hin, hin2, nm_r (gx_cut1 b hw.1) (nm_r (nI_1 (j + 1)) (hk (_, _) ⟨by omega, rfl⟩))⟩⟩
theorem ye_cut {m c : Nat} {a b s l o : Nat → Int32} {e : Int32} (hm : m + 1 ≤ 60) (hc : c ≤ m) {post : Int32 → SY → Prop} (hp : post (nI m) (e, nI m, gx_cut a c m, gx_cut b c m, s, l, o)) :
    ∃ k, wY_cut_16 post e (nI (m + 1)) k (nI c) a b s l o := by
  refine pk_loop (fun k j (w : (Nat → Int32) × (Nat → Int32)) => wY_cut_16 post e (nI (m + 1)) k (nI j) w.1 w.2 s l o) (fun j w => c ≤ j ∧ w = (gx_cut a c j, gx_cut b c j)) m c (a, b) hc ⟨Nat.le_refl c, ?_⟩ ?_ ?_
  · rw [gx_cut0, gx_cut0]
  · intro k w hw
    rw [hw.2]
    refine br_t (by rw [nI_pred]; exact nI_le (Nat.le_refl _) (by omega)) ?_
    exact nm_r (nI_pred m) hp
  · intro k j w hj hw hk
    rw [hw.2]
    have hin : vp_in (nI (j + 1)) 60 := vp_in_nI (by omega) (by decide)
    have hin2 : vp_in (nI j) 60 := vp_in_nI (by omega) (by decide)
    have hc1 : (nI (j + 1)).toNatClampNeg = j + 1 := nI_clamp (by omega)
    have hc2 : (nI j).toNatClampNeg = j := nI_clamp (by omega)
    refine br_f (by rw [nI_pred]; exact nI_ge hj (by omega)) (br_f (nI_ge (a := j) (b := 59) (by omega) (by decide)) ?_)
    rw [nI_1 j, hc1, hc2]
    exact ⟨hin, hin2, nm_r (gx_cut1 a hw.1) ⟨hin, hin2, nm_r (gx_cut1 b hw.1) (nm_e (hk (_, _) ⟨by omega, rfl⟩))⟩⟩
theorem i_vc_cut {k : Nat} {u : SX} {v : SY} (I : i_Rel k u v) (hk : k + 3 ≤ 1537) (v1 : Int32) : wpX_cut (fun r u' => wpY_cut (fun r' v' => r' = r ∧ i_Rel (k + 3) u' v') v v1) u v1 := by
  obtain ⟨n, m, f, t, a, b, s, l, o, K, rfl, rfl⟩ := I
  have hm := K.2.2.1
  unfold wpX_cut wpY_cut
  dsimp only
  rcases gx_ix (n := m) (by omega) v1 with h | ⟨c, hc, rfl⟩
  · refine xe_pbad h (br_t rfl ?_)
    by_cases z : v1 < 0
    · exact br_t z ⟨rfl, gx_rel K _⟩
    · exact br_f z (br_f (fun y => Int32.lt_irrefl (Int32.lt_of_le_of_lt (h.resolve_left z) y)) ⟨rfl, gx_rel K _⟩)
  · obtain ⟨m', rfl⟩ : ∃ m', m = m' + 1 := ⟨m - 1, by omega⟩
    refine xe_pok hc hm (br_f (by decide) (nm_r (nI_1 c) (xe_cut hm (by omega) ?_)))
    exact br_f (nI_pos (by omega)) (br_t (nI_lt hc (by omega)) (ye_cut hm (by omega) ⟨rfl, gx_rel (gx_kcut K c) _⟩))
