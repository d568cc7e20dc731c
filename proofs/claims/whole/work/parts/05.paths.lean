section
variable {d s : Nat} {st cp ln wt : Nat → Int32} {L : Nat → Nat}
theorem ft_Xfst (hL : ∀ j, ln j = nI (L j) ∧ L j ≤ 8) {j k : Nat} (hj : j < 40) (hk : k ≤ 8) (post : Int32 → Prop)
    (h1 : ft_Fst cp L k j → post 1) (h0 : ¬ ft_Fst cp L k j → post 0) :
    wpX_isFirstWithBeginning post (nI d, nI s, st, cp, ln, wt) (nI j) (nI k) := by
  refine loop_0 (fun n i (_ : Unit) => wX_isFirstWithBeginning_2 post (nI j) (nI k) (nI d) (nI s) st cp ln wt n (nI i)) (fun i _ => ∀ t, t < i → ¬ ft_Sh cp L k t j) j () (fun q hq => absurd hq (Nat.not_lt_zero q)) ?_ ?_
  · intro n _ hI
    exact br_t (nI_le (Nat.le_refl j) (by omega)) (h1 hI)
  · intro n i _ hi hI hn
    refine br_f (nI_ge hi (by omega)) (ft_Xsh hL (by omega) hj hk _ (fun h => ?_) (fun h => ?_))
    · exact br_f ft_z1 (h0 (fun z => z i hi h))
    · exact br_t rfl (nm_r (nI_1 i) (hn () (lt_s hI h)))
theorem ft_Xtot (hs : s ≤ 40) (hL : ∀ j, ln j = nI (L j) ∧ L j ≤ 8) {j k : Nat} (hj : j < 40) (hk : k ≤ 8) (post : Int32 → Prop)
    (hp : post (ft_Sum (fun t => ft_Sh cp L k t j) wt s)) :
    wpX_totalOfBeginning post (nI d, nI s, st, cp, ln, wt) (nI j) (nI k) := by
  refine loop_0 (fun n i x => wX_totalOfBeginning_5 post (nI j) (nI k) (nI d) (nI s) st cp ln wt n x (nI i)) (fun i x => x = ft_Sum (fun t => ft_Sh cp L k t j) wt i) s 0 rfl ?_ ?_
  · intro n x hx
    subst hx
    exact br_t (nI_le (Nat.le_refl s) (by omega)) hp
  · intro n i x hi hx hn
    subst hx
    refine br_f (nI_ge hi (by omega)) (ft_Xsh hL (by omega) hj hk _ (fun h => ?_) (fun h => ?_))
    · exact br_f ft_z1 ⟨vp_in_nI (by omega) (by omega), nm_r (ft_w (by omega) _) (nm_r (nI_1 i) (hn _ (ft_sumT (c := fun t => ft_Sh cp L k t j) h).symm))⟩
    · exact br_t rfl (nm_r (nI_1 i) (hn _ (ft_sumF (c := fun t => ft_Sh cp L k t j) h).symm))
theorem ft_Ynew (hs : s ≤ 40) (hL : ∀ j, ln j = nI (L j) ∧ L j ≤ 8) {j k : Nat} (hj : j < s) (hk : k ≤ 8) (post : Int32 → Prop)
    (h1 : ft_Fst cp L k j → post (ft_Sum (fun t => ft_Sh cp L k t j) wt s)) (h0 : ¬ ft_Fst cp L k j → post 0) :
    wpY_newTotal post (nI d, nI s, st, cp, ln, wt) (nI j) (nI k) := by
  refine loop_0 (fun n i x => wY_newTotal_5 post (nI j) (nI k) (nI d) (nI s) st cp ln wt n x (nI i)) (fun i x => x = ft_Sum (fun t => ft_Sh cp L k t j) wt i ∧ ∀ t, t < i → t < j → ¬ ft_Sh cp L k t j) s 0 ⟨rfl, fun q hq => absurd hq (Nat.not_lt_zero q)⟩ ?_ ?_
  · intro n x hI
    obtain ⟨hx, hI⟩ := hI
    subst hx
    exact br_t (nI_le (Nat.le_refl s) (by omega)) (h1 (fun t ht => hI t (by omega) ht))
  · intro n i x hi hI hn
    obtain ⟨hx, hI⟩ := hI
    subst hx
    refine br_f (nI_ge hi (by omega)) (ft_Ysh hL (by omega) (by omega) hk _ (fun h => ?_) (fun h => ?_))
    · refine br_f ft_z1 (ek_if (d := j ≤ i) (nI_leI (by omega) (by omega)) (fun g => ?_) (fun g => ?_))
      · exact ⟨vp_in_nI (by omega) (by omega), nm_r (ft_w (by omega) _) (nm_r (nI_1 i) (hn _ ⟨(ft_sumT (c := fun t => ft_Sh cp L k t j) (ft_shS h)).symm, lt_s hI (fun z => absurd z (by omega))⟩))⟩
      · exact h0 (fun z => z i (by omega) (ft_shS h))
    · exact br_t rfl (nm_r (nI_1 i) (hn _ ⟨(ft_sumF (c := fun t => ft_Sh cp L k t j) (fun z => h (ft_shS z))).symm, lt_s hI (fun _ z => h (ft_shS z))⟩))
end
noncomputable def ft_Cn (p : Nat → Prop) (c : Int32) : Nat → Int32
  | 0 => c
  | k + 1 => @ite _ (p (k + 1)) (Classical.propDecidable _) (ft_Cn p c k + 1) (ft_Cn p c k)
theorem ft_cnT {p : Nat → Prop} {c : Int32} {k : Nat} (h : p (k + 1)) : ft_Cn p c (k + 1) = ft_Cn p c k + 1 := by
  rw [ft_Cn]; exact if_pos h
theorem ft_cnF {p : Nat → Prop} {c : Int32} {k : Nat} (h : ¬ p (k + 1)) : ft_Cn p c (k + 1) = ft_Cn p c k := by
  rw [ft_Cn]; exact if_neg h
noncomputable def ft_Pth (p : Nat → Nat → Prop) (L : Nat → Nat) : Nat → Int32
  | 0 => 0
  | j + 1 => ft_Cn (p j) (ft_Pth p L j) (L j)
def ft_Hit (cp : Nat → Int32) (L : Nat → Nat) (wt : Nat → Int32) (s : Nat) (least : Int32) (j k : Nat) : Prop := ¬ ft_Sum (fun t => ft_Sh cp L k t j) wt s < least
def ft_New (cp : Nat → Int32) (L : Nat → Nat) (wt : Nat → Int32) (s : Nat) (least : Int32) (j k : Nat) : Prop := ft_Fst cp L k j ∧ ft_Hit cp L wt s least j k
section
variable {d s : Nat} {st cp ln wt : Nat → Int32} {L : Nat → Nat}
theorem ft_Xpi (hs : s ≤ 40) (hL : ∀ j, ln j = nI (L j) ∧ L j ≤ 8) {j : Nat} (hj : j < 40) (least c : Int32) (post : Int32 → Prop) (J : Int32 → Int32 → Prop)
    (hp : J (ft_Cn (ft_New cp L wt s least j) c (L j)) (nI (j + 1))) :
    ∃ n, wX_paths_22 post J least (nI j) (nI d) (nI s) st cp ln wt n c 1 := by
  have el := ft_len hL hj
  have hl := (hL j).2
  refine loop_0 (fun n i x => wX_paths_22 post J least (nI j) (nI d) (nI s) st cp ln wt n x (nI (i + 1))) (fun i x => x = ft_Cn (ft_New cp L wt s least j) c i) (L j) c rfl ?_ ?_
  · intro n x hx
    subst hx
    exact ⟨vp_in_nI hj (by omega), br_t (by rw [el]; exact nI_lt (by omega) (by omega)) (nm_r (nI_1 j) hp)⟩
  · intro n i x hi hx hn
    subst hx
    refine ⟨vp_in_nI hj (by omega), br_f (by rw [el]; exact nI_nlt (by omega) (by omega)) (ft_Xfst hL hj (by omega) _ (fun h => ?_) (fun h => ?_))⟩
    · refine br_f ft_z1 (ft_Xtot hs hL hj (by omega) _ ?_)
      refine br_c (fun g => ?_) (fun g => ?_)
      · exact nm_r (nI_1 (i + 1)) (hn _ (ft_cnF (fun z => z.2 g)).symm)
      · exact nm_e (nm_r (nI_1 (i + 1)) (hn _ (ft_cnT ⟨h, g⟩).symm))
    · exact br_t rfl (nm_r (nI_1 (i + 1)) (hn _ (ft_cnF (fun z => h z.1)).symm))
theorem ft_Ypi (hs : s ≤ 40) (hL : ∀ j, ln j = nI (L j) ∧ L j ≤ 8) {j : Nat} (hj : j < s) (least c : Int32) (hl1 : 0 < least) (post : Int32 → Prop) (J : Int32 → Int32 → Prop)
    (hp : J (ft_Cn (ft_New cp L wt s least j) c (L j)) (nI (j + 1))) :
    ∃ n, wY_paths_28 post J least (nI j) (nI d) (nI s) st cp ln wt n c 1 := by
  have el := ft_len hL (j := j) (by omega)
  have hl := (hL j).2
  refine loop_0 (fun n i x => wY_paths_28 post J least (nI j) (nI d) (nI s) st cp ln wt n x (nI (i + 1))) (fun i x => x = ft_Cn (ft_New cp L wt s least j) c i) (L j) c rfl ?_ ?_
  · intro n x hx
    subst hx
    exact ⟨vp_in_nI (by omega) (by omega), br_t (by rw [el]; exact nI_lt (by omega) (by omega)) (nm_r (nI_1 j) hp)⟩
  · intro n i x hi hx hn
    subst hx
    refine ⟨vp_in_nI (by omega) (by omega), br_f (by rw [el]; exact nI_nlt (by omega) (by omega)) (ft_Ynew hs hL hj (by omega) _ (fun h => ?_) (fun h => ?_))⟩
    · refine br_c (fun g => ?_) (fun g => ?_)
      · exact nm_r (nI_1 (i + 1)) (hn _ (ft_cnF (fun z => z.2 g)).symm)
      · exact nm_e (nm_r (nI_1 (i + 1)) (hn _ (ft_cnT ⟨h, g⟩).symm))
    · exact br_t hl1 (nm_r (nI_1 (i + 1)) (hn _ (ft_cnF (fun z => h z.1)).symm))
theorem ft_Xpo (hs : s ≤ 40) (hL : ∀ j, ln j = nI (L j) ∧ L j ≤ 8) (least : Int32) (post : Int32 → Prop)
    (hp : post (ft_Pth (ft_New cp L wt s least) L s)) : ∃ n, wX_paths_10 post least (nI d) (nI s) st cp ln wt n 0 0 := by
  refine loop_0 (fun n i x => wX_paths_10 post least (nI d) (nI s) st cp ln wt n x (nI i)) (fun i x => x = ft_Pth (ft_New cp L wt s least) L i) s 0 rfl ?_ ?_
  · intro n x hx
    subst hx
    exact br_t (nI_le (Nat.le_refl s) (by omega)) hp
  · intro n i x hi hx hn
    subst hx
    exact br_f (nI_ge hi (by omega)) (ft_Xpi hs hL (by omega) least _ post _ (hn _ rfl))
theorem ft_Ypo (hs : s ≤ 40) (hL : ∀ j, ln j = nI (L j) ∧ L j ≤ 8) (least : Int32) (hl1 : 0 < least) (post : Int32 → Prop)
    (hp : post (ft_Pth (ft_New cp L wt s least) L s)) : ∃ n, wY_paths_16 post least (nI d) (nI s) st cp ln wt n 0 0 := by
  refine loop_0 (fun n i x => wY_paths_16 post least (nI d) (nI s) st cp ln wt n x (nI i)) (fun i x => x = ft_Pth (ft_New cp L wt s least) L i) s 0 rfl ?_ ?_
  · intro n x hx
    subst hx
    exact br_t (nI_le (Nat.le_refl s) (by omega)) hp
  · intro n i x hi hx hn
    subst hx
    exact br_f (nI_ge hi (by omega)) (ft_Ypi hs hL hi least _ hl1 post _ (hn _ rfl))
end
