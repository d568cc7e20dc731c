section
variable {d s : Nat} {st cp ln wt : Nat → Int32} {L : Nat → Nat}
theorem ft_w {j : Nat} (hj : j < 40) (x : Int32) : x + wt (nI j).toNatClampNeg = x + wt j := by
  rw [nI_clamp (by omega)]
theorem ft_Xtotal (hd : d ≤ 8) (hs : s ≤ 40) (hL : ∀ j, ln j = nI (L j) ∧ L j ≤ 8) (post : Int32 → Prop)
    (hp : post (ft_Sum (ft_Ov d st cp L) wt s)) : wpX_total post (nI d, nI s, st, cp, ln, wt) := by
  refine loop_0 (fun n i x => wX_total_4 post (nI d) (nI s) st cp ln wt n x (nI i)) (fun i x => x = ft_Sum (ft_Ov d st cp L) wt i) s 0 rfl ?_ ?_
  · intro n x hx
    subst hx
    exact br_t (nI_le (Nat.le_refl s) (by omega)) hp
  · intro n i x hi hx hn
    subst hx
    refine br_f (nI_ge hi (by omega)) (ft_Xov hd hL (by omega) _ (fun h => ?_) (fun h => ?_))
    · exact br_f ft_z1 ⟨vp_in_nI (by omega) (by omega), nm_r (ft_w (by omega) _) (nm_r (nI_1 i) (hn _ (ft_sumT h).symm))⟩
    · exact br_t rfl (nm_r (nI_1 i) (hn _ (ft_sumF h).symm))
theorem ft_Ytotal (hd : d ≤ 8) (hs : s ≤ 40) (hL : ∀ j, ln j = nI (L j) ∧ L j ≤ 8) (post : Int32 → Prop)
    (hp : post (ft_Sum (ft_Ov d st cp L) wt s)) : wpY_total post (nI d, nI s, st, cp, ln, wt) := by
  refine loop_0 (fun n i x => wY_total_4 post (nI d) (nI s) st cp ln wt n x (nI i)) (fun i x => x = ft_Sum (ft_Ov d st cp L) wt i) s 0 rfl ?_ ?_
  · intro n x hx
    subst hx
    exact br_t (nI_le (Nat.le_refl s) (by omega)) hp
  · intro n i x hi hx hn
    subst hx
    refine br_f (nI_ge hi (by omega)) (ft_Yov hd hL (by omega) _ (fun h => ?_) (fun h => ?_))
    · exact br_f ft_z1 ⟨vp_in_nI (by omega) (by omega), nm_r (ft_w (by omega) _) (nm_r (nI_1 i) (hn _ (ft_sumT h).symm))⟩
    · exact br_t rfl (nm_r (nI_1 i) (hn _ (ft_sumF h).symm))
theorem ft_Xown (hd : d ≤ 8) (hs : s ≤ 40) (hL : ∀ j, ln j = nI (L j) ∧ L j ≤ 8) (post : Int32 → Prop)
    (hp : post (ft_Sum (fun j => L j = d ∧ ft_Ov d st cp L j) wt s)) : wpX_own post (nI d, nI s, st, cp, ln, wt) := by
  refine loop_0 (fun n i x => wX_own_4 post (nI d) (nI s) st cp ln wt n x (nI i)) (fun i x => x = ft_Sum (fun j => L j = d ∧ ft_Ov d st cp L j) wt i) s 0 rfl ?_ ?_
  · intro n x hx
    subst hx
    exact br_t (nI_le (Nat.le_refl s) (by omega)) hp
  · intro n i x hi hx hn
    subst hx
    have el := ft_len hL (j := i) (by omega)
    have hl := (hL i).2
    refine br_f (nI_ge hi (by omega)) ⟨vp_in_nI (by omega) (by omega), ?_⟩
    refine ek_if (d := L i = d) (by rw [el]; exact nI_eq (by omega) (by omega)) (fun g => ft_Xov hd hL (by omega) _ (fun h => ?_) (fun h => ?_)) (fun g => ?_)
    · exact br_f ft_z1 ⟨vp_in_nI (by omega) (by omega), nm_r (ft_w (by omega) _) (nm_r (nI_1 i) (hn _ (ft_sumT (c := fun j => L j = d ∧ ft_Ov d st cp L j) ⟨g, h⟩).symm))⟩
    · exact br_t rfl (nm_r (nI_1 i) (hn _ (ft_sumF (c := fun j => L j = d ∧ ft_Ov d st cp L j) (fun z => h z.2)).symm))
    · exact nm_r (nI_1 i) (hn _ (ft_sumF (c := fun j => L j = d ∧ ft_Ov d st cp L j) (fun z => g z.1)).symm)
theorem ft_Yown (hd : d ≤ 8) (hs : s ≤ 40) (hL : ∀ j, ln j = nI (L j) ∧ L j ≤ 8) (post : Int32 → Prop)
    (hp : post (ft_Sum (fun j => L j = d ∧ ft_Ov d st cp L j) wt s)) : wpY_own post (nI d, nI s, st, cp, ln, wt) := by
  refine loop_0 (fun n i x => wY_own_4 post (nI d) (nI s) st cp ln wt n x (nI i)) (fun i x => x = ft_Sum (fun j => L j = d ∧ ft_Ov d st cp L j) wt i) s 0 rfl ?_ ?_
  · intro n x hx
    subst hx
    exact br_t (nI_le (Nat.le_refl s) (by omega)) hp
  · intro n i x hi hx hn
    subst hx
    have el := ft_len hL (j := i) (by omega)
    have hl := (hL i).2
    refine br_f (nI_ge hi (by omega)) (ft_Yov hd hL (by omega) _ (fun h => ?_) (fun h => ?_))
    · refine br_f ft_z1 ⟨vp_in_nI (by omega) (by omega), ?_⟩
      refine ek_if (d := L i = d) (by rw [el]; exact nI_eq (by omega) (by omega)) (fun g => ?_) (fun g => ?_)
      · exact ⟨vp_in_nI (by omega) (by omega), nm_r (ft_w (by omega) _) (nm_r (nI_1 i) (hn _ (ft_sumT (c := fun j => L j = d ∧ ft_Ov d st cp L j) ⟨g, h⟩).symm))⟩
      · exact nm_r (nI_1 i) (hn _ (ft_sumF (c := fun j => L j = d ∧ ft_Ov d st cp L j) (fun z => g z.1)).symm)
    · exact br_t rfl (nm_r (nI_1 i) (hn _ (ft_sumF (c := fun j => L j = d ∧ ft_Ov d st cp L j) (fun z => h z.2)).symm))
def ft_Nx (d : Nat) (st cp : Nat → Int32) (L : Nat → Nat) (f : Int32) (j : Nat) : Prop := d < L j ∧ cp (8 * j + d) = f ∧ ft_Ov d st cp L j
theorem ft_Xnext (hd : d ≤ 8) (hs : s ≤ 40) (hL : ∀ j, ln j = nI (L j) ∧ L j ≤ 8) (f : Int32) (post : Int32 → Prop)
    (hp : post (ft_Sum (ft_Nx d st cp L f) wt s)) : wpX_totalWithNext post (nI d, nI s, st, cp, ln, wt) f := by
  refine loop_0 (fun n i x => wX_totalWithNext_4 post f (nI d) (nI s) st cp ln wt n x (nI i)) (fun i x => x = ft_Sum (ft_Nx d st cp L f) wt i) s 0 rfl ?_ ?_
  · intro n x hx
    subst hx
    exact br_t (nI_le (Nat.le_refl s) (by omega)) hp
  · intro n i x hi hx hn
    subst hx
    have el := ft_len hL (j := i) (by omega)
    have hl := (hL i).2
    refine br_f (nI_ge hi (by omega)) ⟨vp_in_nI (by omega) (by omega), ?_⟩
    refine ek_if (d := L i ≤ d) (by rw [el]; exact nI_leI (by omega) (by omega)) (fun g => ?_) (fun g => ⟨ft_inx i d (by omega), ?_⟩)
    · exact nm_r (nI_1 i) (hn _ (ft_sumF (fun z => absurd z.1 (by omega))).symm)
    refine ek_if (d := cp (8 * i + d) = f) (by rw [ft_clx i d (by omega)]) (fun e => ft_Xov hd hL (by omega) _ (fun h => ?_) (fun h => ?_)) (fun e => ?_)
    · exact br_f ft_z1 ⟨vp_in_nI (by omega) (by omega), nm_r (ft_w (by omega) _) (nm_r (nI_1 i) (hn _ (ft_sumT ⟨by omega, e, h⟩).symm))⟩
    · exact br_t rfl (nm_r (nI_1 i) (hn _ (ft_sumF (fun z => h z.2.2)).symm))
    · exact nm_r (nI_1 i) (hn _ (ft_sumF (fun z => e z.2.1)).symm)
theorem ft_Ynext (hd : d ≤ 8) (hs : s ≤ 40) (hL : ∀ j, ln j = nI (L j) ∧ L j ≤ 8) (f : Int32) (post : Int32 → Prop)
    (hp : post (ft_Sum (ft_Nx d st cp L f) wt s)) : wpY_totalWith post (nI d, nI s, st, cp, ln, wt) f := by
  refine loop_0 (fun n i x => wY_totalWith_4 post f (nI d) (nI s) st cp ln wt n x (nI i)) (fun i x => x = ft_Sum (ft_Nx d st cp L f) wt i) s 0 rfl ?_ ?_
  · intro n x hx
    subst hx
    exact br_t (nI_le (Nat.le_refl s) (by omega)) hp
  · intro n i x hi hx hn
    subst hx
    have el := ft_len hL (j := i) (by omega)
    have hl := (hL i).2
    refine br_f (nI_ge hi (by omega)) (ft_Yov hd hL (by omega) _ (fun h => ?_) (fun h => ?_))
    · refine br_f ft_z1 ⟨vp_in_nI (by omega) (by omega), ?_⟩
      refine ek_if (d := L i ≤ d) (by rw [el]; exact nI_leI (by omega) (by omega)) (fun g => ?_) (fun g => ⟨ft_iny i d (by omega), ?_⟩)
      · exact nm_r (nI_1 i) (hn _ (ft_sumF (fun z => absurd z.1 (by omega))).symm)
      refine ek_if (d := cp (8 * i + d) = f) (by rw [ft_cly i d (by omega)]) (fun e => ?_) (fun e => ?_)
      · exact ⟨vp_in_nI (by omega) (by omega), nm_r (ft_w (by omega) _) (nm_r (nI_1 i) (hn _ (ft_sumT ⟨by omega, e, h⟩).symm))⟩
      · exact nm_r (nI_1 i) (hn _ (ft_sumF (fun z => e z.2.1)).symm)
    · exact br_t rfl (nm_r (nI_1 i) (hn _ (ft_sumF (fun z => h z.2.2)).symm))
noncomputable def ft_Ht (T : Nat → Int32) : Nat → Int32 × Int32
  | 0 => (-1, 0)
  | f + 1 => if T f ≤ (ft_Ht T f).2 then ft_Ht T f else (nI f, T f)
theorem ft_htT {T : Nat → Int32} {f : Nat} (h : T f ≤ (ft_Ht T f).2) : ft_Ht T (f + 1) = ft_Ht T f := by
  rw [ft_Ht]; exact if_pos h
theorem ft_htF {T : Nat → Int32} {f : Nat} (h : ¬ T f ≤ (ft_Ht T f).2) : ft_Ht T (f + 1) = (nI f, T f) := by
  rw [ft_Ht]; exact if_neg h
theorem ft_ht0 {T : Nat → Int32} (h : ∀ f, T f = 0) : ∀ f, ft_Ht T f = (-1, 0) := by
  intro f
  induction f with
  | zero => rfl
  | succ f ih => rw [ft_htT (by rw [ih, h f]; exact Int32.le_refl 0), ih]
theorem ft_Xinc (hs : s ≤ 40) (hL : ∀ j, ln j = nI (L j) ∧ L j ≤ 8) (f : Int32) (post : Int32 → Prop)
    (hp : post (ft_Sum (ft_Has cp L f) wt s)) : ∃ n, wX_inclusive_13 post f (nI d) (nI s) st cp ln wt n 0 0 := by
  refine loop_0 (fun n i x => wX_inclusive_13 post f (nI d) (nI s) st cp ln wt n x (nI i)) (fun i x => x = ft_Sum (ft_Has cp L f) wt i) s 0 rfl ?_ ?_
  · intro n x hx
    subst hx
    exact br_t (nI_le (Nat.le_refl s) (by omega)) hp
  · intro n i x hi hx hn
    subst hx
    refine br_f (nI_ge hi (by omega)) (ft_Xhas hL (by omega) f _ (fun h => ?_) (fun h => ?_))
    · exact br_f ft_z1 ⟨vp_in_nI (by omega) (by omega), nm_r (ft_w (by omega) _) (nm_r (nI_1 i) (hn _ (ft_sumT h).symm))⟩
    · exact br_t rfl (nm_r (nI_1 i) (hn _ (ft_sumF h).symm))
theorem ft_Ystg (hs : s ≤ 40) (hL : ∀ j, ln j = nI (L j) ∧ L j ≤ 8) (a f : Int32) (post : Int32 → Prop)
    (hp : post (ft_Sum (ft_St cp L a f) wt s)) : wpY_standing post (nI d, nI s, st, cp, ln, wt) a f := by
  refine loop_0 (fun n i x => wY_standing_5 post a f (nI d) (nI s) st cp ln wt n x (nI i)) (fun i x => x = ft_Sum (ft_St cp L a f) wt i) s 0 rfl ?_ ?_
  · intro n x hx
    subst hx
    exact br_t (nI_le (Nat.le_refl s) (by omega)) hp
  · intro n i x hi hx hn
    subst hx
    refine br_f (nI_ge hi (by omega)) (ft_Yst hL (by omega) a f _ (fun h => ?_) (fun h => ?_))
    · exact br_f ft_z1 ⟨vp_in_nI (by omega) (by omega), nm_r (ft_w (by omega) _) (nm_r (nI_1 i) (hn _ (ft_sumT h).symm))⟩
    · exact br_t rfl (nm_r (nI_1 i) (hn _ (ft_sumF h).symm))
theorem ft_Xexc (hs : s ≤ 40) (hL : ∀ j, ln j = nI (L j) ∧ L j ≤ 8) (f : Int32) (post : Int32 → Prop)
    (hp : post (ft_Sum (ft_End cp L f) wt s)) : ∃ n, wX_exclusive_13 post f (nI d) (nI s) st cp ln wt n 0 0 := by
  refine loop_0 (fun n i x => wX_exclusive_13 post f (nI d) (nI s) st cp ln wt n x (nI i)) (fun i x => x = ft_Sum (ft_End cp L f) wt i) s 0 rfl ?_ ?_
  · intro n x hx
    subst hx
    exact br_t (nI_le (Nat.le_refl s) (by omega)) hp
  · intro n i x hi hx hn
    subst hx
    refine br_f (nI_ge hi (by omega)) (ft_Xend hL (by omega) f _ (fun h => ?_) (fun h => ?_))
    · exact br_f ft_z1 ⟨vp_in_nI (by omega) (by omega), nm_r (ft_w (by omega) _) (nm_r (nI_1 i) (hn _ (ft_sumT h).symm))⟩
    · exact br_t rfl (nm_r (nI_1 i) (hn _ (ft_sumF h).symm))
theorem ft_Yexc (hs : s ≤ 40) (hL : ∀ j, ln j = nI (L j) ∧ L j ≤ 8) (f : Int32) (post : Int32 → Prop)
    (hp : post (ft_Sum (ft_End cp L f) wt s)) : ∃ n, wY_exclusive_13 post f (nI d) (nI s) st cp ln wt n 0 0 := by
  refine loop_0 (fun n i x => wY_exclusive_13 post f (nI d) (nI s) st cp ln wt n x (nI i)) (fun i x => x = ft_Sum (ft_End cp L f) wt i) s 0 rfl ?_ ?_
  · intro n x hx
    subst hx
    exact br_t (nI_le (Nat.le_refl s) (by omega)) hp
  · intro n i x hi hx hn
    subst hx
    have el := ft_len hL (j := i) (by omega)
    have hl := (hL i).2
    refine br_f (nI_ge hi (by omega)) ⟨vp_in_nI (by omega) (by omega), ?_⟩
    rw [el]
    cases hz : L i with
    | zero =>
      exact br_t (nI_le (Nat.le_refl 0) (by decide)) (nm_r (nI_1 i) (hn _ (ft_sumF (fun ⟨k, e, _⟩ => by omega)).symm))
    | succ q =>
      refine br_f (nI_nle (by omega) (by omega)) ⟨vp_in_nI (by omega) (by omega), ?_⟩
      rw [ft_pry]
      refine ⟨vp_in_nI (by omega) (by omega), ?_⟩
      refine ek_if (d := cp (8 * i + q) = f) (by rw [nI_clamp (by omega)]) (fun e => ?_) (fun e => ?_)
      · exact ⟨vp_in_nI (by omega) (by omega), nm_r (ft_w (by omega) _) (nm_r (nI_1 i) (hn _ (ft_sumT ⟨q, hz, e⟩).symm))⟩
      · refine nm_r (nI_1 i) (hn _ (ft_sumF (fun z => ?_)).symm)
        obtain ⟨k, ek, e2⟩ := z
        have hk : k = q := by omega
        subst hk
        exact e e2
theorem ft_Xedge (hs : s ≤ 40) (hL : ∀ j, ln j = nI (L j) ∧ L j ≤ 8) (a f : Int32) (post : Int32 → Prop)
    (hp : post (ft_Sum (ft_Edg cp L a f) wt s)) : ∃ n, wX_edge_21 post a f (nI d) (nI s) st cp ln wt n 0 0 := by
  refine loop_0 (fun n i x => wX_edge_21 post a f (nI d) (nI s) st cp ln wt n x (nI i)) (fun i x => x = ft_Sum (ft_Edg cp L a f) wt i) s 0 rfl ?_ ?_
  · intro n x hx
    subst hx
    exact br_t (nI_le (Nat.le_refl s) (by omega)) hp
  · intro n i x hi hx hn
    subst hx
    refine br_f (nI_ge hi (by omega)) (ft_Xedg hL (by omega) a f _ (fun h => ?_) (fun h => ?_))
    · exact br_f ft_z1 ⟨vp_in_nI (by omega) (by omega), nm_r (ft_w (by omega) _) (nm_r (nI_1 i) (hn _ (ft_sumT h).symm))⟩
    · exact br_t rfl (nm_r (nI_1 i) (hn _ (ft_sumF h).symm))
end
