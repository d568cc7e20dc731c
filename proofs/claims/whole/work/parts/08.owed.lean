def i_Rel (_ : Nat) (u : SX) (v : SY) : Prop := ∃ (d s : Nat) (st cp ln wt : Nat → Int32) (L : Nat → Nat), u = (nI d, nI s, st, cp, ln, wt) ∧ v = (nI d, nI s, st, cp, ln, wt) ∧ d ≤ 8 ∧ s ≤ 40 ∧ ∀ j, ln j = nI (L j) ∧ L j ≤ 8
theorem i_up {k : Nat} {u : SX} {v : SY} (h : i_Rel k u v) : i_Rel (k + 3) u v := h
theorem i_vc0 : wpX_init (fun u => wpY_init (fun v => i_Rel 0 u v)) :=
  ⟨0, 0, _, _, _, _, fun _ => 0, rfl, rfl, Nat.zero_le 8, Nat.zero_le 40, fun _ => ⟨rfl, Nat.zero_le 8⟩⟩
theorem i_vc_call {k : Nat} {u : SX} {v : SY} (I : i_Rel k u v) (hk : k + 3 ≤ 1536) (v1 : Int32) : wpX_call (fun r u' => wpY_call (fun r' v' => r' = r ∧ i_Rel (k + 3) u' v') v v1) u v1 := by
  obtain ⟨d, s, st, cp, ln, wt, L, rfl, rfl, hd, hs, hL⟩ := I
  have ed : (nI d).toNatClampNeg = d := nI_clamp (by omega)
  have e8 : nI d = 8 ↔ d = 8 := by rw [← ft_8]; exact nI_eq (by omega) (by omega)
  unfold wpX_call wpY_call
  dsimp only
  refine ft_Xf v1 _ (fun h => ?_) (fun h => ?_)
  · refine br_f ft_z1 ?_
    refine ek_if (d := d < 8) (by rw [← ft_8]; exact nI_ltI (by omega) (by omega)) (fun g => ?_) (fun g => ?_)
    · refine ⟨vp_in_nI g (by omega), nm_r (e' := upd st d v1) (by rw [ed]) (nm_r (nI_1 d) ?_)⟩
      refine ft_Yf v1 _ (fun _ => ?_) (fun z => absurd h z)
      refine br_t rfl (br_f (fun z => absurd (e8.mp z) (by omega)) ?_)
      refine ⟨vp_in_nI g (by omega), nm_r (e' := upd st d v1) (by rw [ed]) (nm_r (nI_1 d) ?_)⟩
      exact ⟨rfl, d + 1, s, upd st d v1, cp, ln, wt, L, rfl, rfl, g, hs, hL⟩
    · refine ft_Yf v1 _ (fun _ => ?_) (fun z => absurd h z)
      refine br_t rfl (br_t (e8.mpr (by omega)) ?_)
      exact ⟨rfl, d, s, st, cp, ln, wt, L, rfl, rfl, hd, hs, hL⟩
  · refine br_t rfl ?_
    refine ft_Yf v1 _ (fun z => absurd z h) (fun _ => ?_)
    refine br_f ft_z1 ?_
    exact ⟨rfl, d, s, st, cp, ln, wt, L, rfl, rfl, hd, hs, hL⟩
theorem i_vc_leave {k : Nat} {u : SX} {v : SY} (I : i_Rel k u v) (hk : k + 3 ≤ 1536) : wpX_leave (fun r u' => wpY_leave (fun r' v' => r' = r ∧ i_Rel (k + 3) u' v') v) u := by
  obtain ⟨d, s, st, cp, ln, wt, L, rfl, rfl, hd, hs, hL⟩ := I
  cases d with
  | zero => exact br_f (nI_nlt (Nat.le_refl 0) (by decide)) (br_t rfl ⟨rfl, 0, s, st, cp, ln, wt, L, rfl, rfl, hd, hs, hL⟩)
  | succ d =>
    refine br_t (nI_lt (a := 0) (by omega) (by omega)) (nm_r (nI_pred d) ⟨vp_in_nI (by omega) (by omega), ?_⟩)
    refine br_f (nI_ne0 (by omega) (by omega)) (nm_r (nI_pred d) ⟨vp_in_nI (by omega) (by omega), ?_⟩)
    exact ⟨rfl, d, s, st, cp, ln, wt, L, rfl, rfl, by omega, hs, hL⟩
theorem i_vc_sample {k : Nat} {u : SX} {v : SY} (I : i_Rel k u v) (hk : k + 3 ≤ 1536) (v1 : Int32) : wpX_sample (fun r u' => wpY_sample (fun r' v' => r' = r ∧ i_Rel (k + 3) u' v') v v1) u v1 := by
  obtain ⟨d, s, st, cp, ln, wt, L, rfl, rfl, hd, hs, hL⟩ := I
  have e40 : nI s = 40 ↔ s = 40 := by rw [← ft_40]; exact nI_eq (by omega) (by omega)
  refine br_c (fun a => ?_) (fun a => br_c (fun b => ?_) (fun b => ?_))
  · exact br_t a ⟨rfl, d, s, st, cp, ln, wt, L, rfl, rfl, hd, hs, hL⟩
  · exact br_f a (br_t b ⟨rfl, d, s, st, cp, ln, wt, L, rfl, rfl, hd, hs, hL⟩)
  refine ek_if (d := s < 40) (by rw [← ft_40]; exact nI_ltI (by omega) (by omega)) (fun g => ?_) (fun g => ?_)
  · refine nm_r (ft_xm s) (ft_Xcpy hd g v1 _ ?_)
    refine br_f a (br_f b (br_f (fun z => absurd (e40.mp z) (by omega)) (ft_Ycpy hd g v1 _ ?_)))
    refine ⟨rfl, d, s + 1, st, ft_Cpy st cp (8 * s) d, upd ln s (nI d), upd wt s v1, fun j => if j = s then d else L j, rfl, rfl, hd, g, fun j => ?_⟩
    by_cases e : j = s
    · subst e
      dsimp only
      rw [pk_us, if_pos rfl]
      exact ⟨rfl, hd⟩
    · dsimp only
      rw [pk_un e, if_neg e]
      exact hL j
  · exact br_f a (br_f b (br_t (e40.mpr (by omega)) ⟨rfl, d, s, st, cp, ln, wt, L, rfl, rfl, hd, hs, hL⟩))
theorem i_vc_total {k : Nat} {u : SX} {v : SY} (I : i_Rel k u v) (hk : k + 3 ≤ 1536) : wpX_total (fun r => wpY_total (fun r' => r' = r ∧ i_Rel (k + 3) u v) v) u := by
  have J := I
  obtain ⟨d, s, st, cp, ln, wt, L, rfl, rfl, hd, hs, hL⟩ := I
  exact ft_Xtotal hd hs hL _ (ft_Ytotal hd hs hL _ ⟨rfl, J⟩)
theorem i_vc_own {k : Nat} {u : SX} {v : SY} (I : i_Rel k u v) (hk : k + 3 ≤ 1536) : wpX_own (fun r => wpY_own (fun r' => r' = r ∧ i_Rel (k + 3) u v) v) u := by
  have J := I
  obtain ⟨d, s, st, cp, ln, wt, L, rfl, rfl, hd, hs, hL⟩ := I
  exact ft_Xown hd hs hL _ (ft_Yown hd hs hL _ ⟨rfl, J⟩)
theorem i_vc_hottest {k : Nat} {u : SX} {v : SY} (I : i_Rel k u v) (hk : k + 3 ≤ 1536) : wpX_hottest (fun r => wpY_hottest (fun r' => r' = r ∧ i_Rel (k + 3) u v) v) u := by
  have J := I
  obtain ⟨d, s, st, cp, ln, wt, L, rfl, rfl, hd, hs, hL⟩ := I
  obtain ⟨r, hX, hY⟩ := ft_hot (st := st) (cp := cp) (wt := wt) hd hs hL
  exact hX _ (hY _ ⟨rfl, J⟩)
theorem i_vc_inclusive {k : Nat} {u : SX} {v : SY} (I : i_Rel k u v) (hk : k + 3 ≤ 1536) (v1 : Int32) : wpX_inclusive (fun r => wpY_inclusive (fun r' => r' = r ∧ i_Rel (k + 3) u v) v v1) u v1 := by
  have J := I
  obtain ⟨d, s, st, cp, ln, wt, L, rfl, rfl, hd, hs, hL⟩ := I
  unfold wpX_inclusive wpY_inclusive
  dsimp only
  refine ft_Xf v1 _ (fun h => ?_) (fun h => ?_)
  · refine br_f ft_z1 ?_
    refine ft_Xinc hs hL v1 _ ?_
    refine ft_Yf v1 _ (fun _ => ?_) (fun z => absurd h z)
    refine br_t rfl ?_
    refine ft_Ystg hs hL (-1) v1 _ ⟨?_, J⟩
    exact ft_sumC s (fun j _ => ft_stI)
  · refine br_t rfl ?_
    refine ft_Yf v1 _ (fun z => absurd z h) (fun _ => ?_)
    exact br_f ft_z1 ⟨rfl, J⟩
theorem i_vc_exclusive {k : Nat} {u : SX} {v : SY} (I : i_Rel k u v) (hk : k + 3 ≤ 1536) (v1 : Int32) : wpX_exclusive (fun r => wpY_exclusive (fun r' => r' = r ∧ i_Rel (k + 3) u v) v v1) u v1 := by
  have J := I
  obtain ⟨d, s, st, cp, ln, wt, L, rfl, rfl, hd, hs, hL⟩ := I
  unfold wpX_exclusive wpY_exclusive
  dsimp only
  refine ft_Xf v1 _ (fun h => ?_) (fun h => ?_)
  · refine br_f ft_z1 ?_
    refine ft_Xexc hs hL v1 _ ?_
    refine ft_Yf v1 _ (fun _ => ?_) (fun z => absurd h z)
    refine br_t rfl ?_
    exact ft_Yexc hs hL v1 _ ⟨rfl, J⟩
  · refine br_t rfl ?_
    refine ft_Yf v1 _ (fun z => absurd z h) (fun _ => ?_)
    exact br_f ft_z1 ⟨rfl, J⟩
theorem i_vc_edge {k : Nat} {u : SX} {v : SY} (I : i_Rel k u v) (hk : k + 3 ≤ 1536) (v1 : Int32) (v2 : Int32) : wpX_edge (fun r => wpY_edge (fun r' => r' = r ∧ i_Rel (k + 3) u v) v v1 v2) u v1 v2 := by
  have J := I
  obtain ⟨d, s, st, cp, ln, wt, L, rfl, rfl, hd, hs, hL⟩ := I
  unfold wpX_edge wpY_edge
  dsimp only
  refine ft_Xf v1 _ (fun h => ?_) (fun h => ?_)
  · refine br_f ft_z1 ?_
    refine ft_Xf v2 _ (fun g => ?_) (fun g => ?_)
    · refine br_f ft_z1 ?_
      refine ft_Xedge hs hL v1 v2 _ ?_
      refine ft_Yf v1 _ (fun _ => ?_) (fun z => absurd h z)
      refine br_t rfl ?_
      refine ft_Yf v2 _ (fun _ => ?_) (fun z => absurd g z)
      refine br_t rfl ?_
      refine ft_Ystg hs hL v1 v2 _ ⟨?_, J⟩
      exact ft_sumC s (fun j _ => ft_stE h.1)
    · refine br_t rfl ?_
      refine ft_Yf v1 _ (fun _ => ?_) (fun z => absurd h z)
      refine br_t rfl ?_
      refine ft_Yf v2 _ (fun z => absurd z g) (fun _ => ?_)
      exact br_f ft_z1 ⟨rfl, J⟩
  · refine br_t rfl ?_
    refine ft_Yf v1 _ (fun z => absurd z h) (fun _ => ?_)
    exact br_f ft_z1 ⟨rfl, J⟩
theorem i_vc_paths {k : Nat} {u : SX} {v : SY} (I : i_Rel k u v) (hk : k + 3 ≤ 1536) (v1 : Int32) : wpX_paths (fun r => wpY_paths (fun r' => r' = r ∧ i_Rel (k + 3) u v) v v1) u v1 := by
  have J := I
  obtain ⟨d, s, st, cp, ln, wt, L, rfl, rfl, hd, hs, hL⟩ := I
  refine br_c (fun h => ?_) (fun h => ?_)
  · exact ft_Xpo hs hL v1 _ (br_t h (ft_Ypo hs hL v1 (ft_pos h) _ ⟨rfl, J⟩))
  · exact ft_Xpo hs hL 1 _ (br_f h (ft_Ypo hs hL 1 (by decide) _ ⟨rfl, J⟩))
theorem i_vc_deepest {k : Nat} {u : SX} {v : SY} (I : i_Rel k u v) (hk : k + 3 ≤ 1536) (v1 : Int32) : wpX_deepest (fun r => wpY_deepest (fun r' => r' = r ∧ i_Rel (k + 3) u v) v v1) u v1 := by
  have J := I
  obtain ⟨d, s, st, cp, ln, wt, L, rfl, rfl, hd, hs, hL⟩ := I
  refine br_c (fun h => ?_) (fun h => ?_)
  · exact ft_Xdo hs hL v1 _ (br_t h (ft_Ydo hs hL v1 (ft_pos h) _ ⟨rfl, J⟩))
  · exact ft_Xdo hs hL 1 _ (br_f h (ft_Ydo hs hL 1 (by decide) _ ⟨rfl, J⟩))
