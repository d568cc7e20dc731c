noncomputable def ft_Tp (h : Nat → Prop) (m : Nat) : Nat → Nat
  | 0 => m
  | k + 1 => @ite _ (m < k + 1 ∧ h (k + 1)) (Classical.propDecidable _) (k + 1) (ft_Tp h m k)
theorem ft_tpT {h : Nat → Prop} {m k : Nat} (z : m < k + 1 ∧ h (k + 1)) : ft_Tp h m (k + 1) = k + 1 := by
  rw [ft_Tp]; exact if_pos z
theorem ft_tpF {h : Nat → Prop} {m k : Nat} (z : ¬ (m < k + 1 ∧ h (k + 1))) : ft_Tp h m (k + 1) = ft_Tp h m k := by
  rw [ft_Tp]; exact if_neg z
theorem ft_tpL {h : Nat → Prop} {m : Nat} : ∀ k, k ≤ m → ft_Tp h m k = m := by
  intro k
  induction k with
  | zero => intro _; rfl
  | succ k ih => intro hk; rw [ft_tpF (fun z => absurd z.1 (by omega)), ih (by omega)]
theorem ft_tpG {h : Nat → Prop} {m : Nat} : ∀ k, m ≤ ft_Tp h m k ∧ (ft_Tp h m k ≤ m ∨ ft_Tp h m k ≤ k) := by
  intro k
  induction k with
  | zero => exact ⟨Nat.le_refl m, Or.inl (Nat.le_refl m)⟩
  | succ k ih =>
    by_cases z : m < k + 1 ∧ h (k + 1)
    · rw [ft_tpT z]; exact ⟨by omega, Or.inr (Nat.le_refl _)⟩
    · rw [ft_tpF z]; omega
theorem ft_tpU {h : Nat → Prop} {m : Nat} : ∀ k q, 1 ≤ q → q ≤ k → h q → q ≤ ft_Tp h m k := by
  intro k
  induction k with
  | zero => intro q h1 h2 _; omega
  | succ k ih =>
    intro q h1 h2 hq
    by_cases z : m < k + 1 ∧ h (k + 1)
    · rw [ft_tpT z]; exact h2
    · rw [ft_tpF z]
      by_cases e : q = k + 1
      · subst e
        have := (ft_tpG (h := h) (m := m) k).1
        have hm : ¬ m < k + 1 := fun y => z ⟨y, hq⟩
        omega
      · exact ih q h1 (by omega) hq
noncomputable def ft_Dp (h : Nat → Nat → Prop) (L : Nat → Nat) : Nat → Nat
  | 0 => 0
  | j + 1 => ft_Tp (h j) (ft_Dp h L j) (L j)
theorem ft_dpB {h : Nat → Nat → Prop} {L : Nat → Nat} (hL : ∀ j, L j ≤ 8) : ∀ j, ft_Dp h L j ≤ 8 := by
  intro j
  induction j with
  | zero => exact Nat.zero_le 8
  | succ j ih =>
    have g := (ft_tpG (h := h j) (m := ft_Dp h L j) (L j)).2
    have l := hL j
    rw [ft_Dp]
    omega
theorem ft_dpU {h : Nat → Nat → Prop} {L : Nat → Nat} : ∀ j t, t < j → ∀ q, 1 ≤ q → q ≤ L t → h t q → q ≤ ft_Dp h L j := by
  intro j
  induction j with
  | zero => intro t ht; omega
  | succ j ih =>
    intro t ht q h1 h2 hq
    rw [ft_Dp]
    by_cases e : t = j
    · subst e
      exact ft_tpU (L t) q h1 h2 hq
    · have a := ih t (by omega) q h1 h2 hq
      have g := (ft_tpG (h := h j) (m := ft_Dp h L j) (L j)).1
      omega
theorem ft_hitC {cp : Nat → Int32} {L : Nat → Nat} {wt : Nat → Int32} {s : Nat} {least : Int32} {t j k : Nat} (h : ft_Sh cp L k t j) (z : ft_Hit cp L wt s least j k) : ft_Hit cp L wt s least t k := by
  have e : ft_Sum (fun q => ft_Sh cp L k q t) wt s = ft_Sum (fun q => ft_Sh cp L k q j) wt s :=
    ft_sumC s (fun q _ => ⟨fun y => ft_shT y h, fun y => ft_shT y (ft_shS h)⟩)
  rw [ft_Hit, e]
  exact z
section
variable {d s : Nat} {st cp ln wt : Nat → Int32} {L : Nat → Nat}
theorem ft_Xdi (hs : s ≤ 40) (hL : ∀ j, ln j = nI (L j) ∧ L j ≤ 8) {j : Nat} (hj : j < 40) (least : Int32) {m : Nat} (hm : m ≤ 8) (post : Int32 → Prop) (J : Int32 → Int32 → Prop)
    (hp : J (nI (ft_Tp (ft_Hit cp L wt s least j) m (L j))) (nI (j + 1))) :
    ∃ n, wX_deepest_24 post J least (nI j) (nI d) (nI s) st cp ln wt n (nI m) (nI (m + 1)) := by
  have el := ft_len hL hj
  have hl := (hL j).2
  by_cases hz : L j < m
  · rw [ft_tpL (L j) (by omega)] at hp
    exact ⟨1, vp_in_nI hj (by omega), br_t (by rw [el]; exact nI_lt (by omega) (by omega)) (nm_r (nI_1 j) hp)⟩
  refine pk_loop (fun n i x => wX_deepest_24 post J least (nI j) (nI d) (nI s) st cp ln wt n x (nI (i + 1))) (fun i x => m ≤ i ∧ x = nI (ft_Tp (ft_Hit cp L wt s least j) m i)) (L j) m (nI m) (by omega) ⟨Nat.le_refl m, by rw [ft_tpL m (Nat.le_refl m)]⟩ ?_ ?_
  · intro n x hx
    obtain ⟨_, hx⟩ := hx
    subst hx
    exact ⟨vp_in_nI hj (by omega), br_t (by rw [el]; exact nI_lt (by omega) (by omega)) (nm_r (nI_1 j) hp)⟩
  · intro n i x hi hx hn
    obtain ⟨hmi, hx⟩ := hx
    subst hx
    refine ⟨vp_in_nI hj (by omega), br_f (by rw [el]; exact nI_nlt (by omega) (by omega)) (ft_Xtot hs hL hj (by omega) _ ?_)⟩
    refine br_c (fun g => ?_) (fun g => ?_)
    · exact nm_r (nI_1 (i + 1)) (hn _ ⟨by omega, by rw [ft_tpF (h := ft_Hit cp L wt s least j) (m := m) (k := i) (fun z => z.2 g)]⟩)
    · exact nm_r (nI_1 (i + 1)) (hn _ ⟨by omega, by rw [ft_tpT (h := ft_Hit cp L wt s least j) (m := m) (k := i) ⟨by omega, g⟩]⟩)
theorem ft_Ydi (hs : s ≤ 40) (hL : ∀ j, ln j = nI (L j) ∧ L j ≤ 8) {j : Nat} (hj : j < s) (least : Int32) (hl1 : 0 < least) {m : Nat} (hm : m ≤ 8)
    (hU : ∀ t, t < j → ∀ q, 1 ≤ q → q ≤ L t → ft_Hit cp L wt s least t q → q ≤ m) (post : Int32 → Prop) (J : Int32 → Int32 → Prop)
    (hp : J (nI (ft_Tp (ft_Hit cp L wt s least j) m (L j))) (nI (j + 1))) :
    ∃ n, wY_deepest_28 post J least (nI j) (nI d) (nI s) st cp ln wt n (nI m) 1 := by
  have el := ft_len hL (j := j) (by omega)
  have hl := (hL j).2
  refine loop_0 (fun n i x => wY_deepest_28 post J least (nI j) (nI d) (nI s) st cp ln wt n x (nI (i + 1))) (fun i x => x = nI (ft_Tp (ft_Hit cp L wt s least j) m i)) (L j) (nI m) rfl ?_ ?_
  · intro n x hx
    subst hx
    exact ⟨vp_in_nI (by omega) (by omega), br_t (by rw [el]; exact nI_lt (by omega) (by omega)) (nm_r (nI_1 j) hp)⟩
  · intro n i x hi hx hn
    subst hx
    have gt := ft_tpG (h := ft_Hit cp L wt s least j) (m := m) i
    refine ⟨vp_in_nI (by omega) (by omega), br_f (by rw [el]; exact nI_nlt (by omega) (by omega)) (ft_Ynew hs hL hj (by omega) _ (fun h => ?_) (fun h => ?_))⟩
    · refine br_c (fun g => ?_) (fun g => ?_)
      · exact nm_r (nI_1 (i + 1)) (hn _ (by rw [ft_tpF (h := ft_Hit cp L wt s least j) (m := m) (k := i) (fun z => z.2 g)]))
      · refine ek_if (d := i + 1 ≤ ft_Tp (ft_Hit cp L wt s least j) m i) (nI_leI (by omega) (by omega)) (fun y => ?_) (fun y => ?_)
        · exact nm_r (nI_1 (i + 1)) (hn _ (by rw [ft_tpF (h := ft_Hit cp L wt s least j) (m := m) (k := i) (fun z => absurd z.1 (by omega))]))
        · exact nm_r (nI_1 (i + 1)) (hn _ (by rw [ft_tpT (h := ft_Hit cp L wt s least j) (m := m) (k := i) ⟨by omega, g⟩]))
    · refine br_t hl1 (nm_r (nI_1 (i + 1)) (hn _ ?_))
      rw [ft_tpF (h := ft_Hit cp L wt s least j) (m := m) (k := i) (fun z => ?_)]
      refine h (fun t ht hsh => ?_)
      have a := hU t ht (i + 1) (by omega) hsh.1 (ft_hitC hsh z.2)
      have b := z.1
      omega
theorem ft_Xdo (hs : s ≤ 40) (hL : ∀ j, ln j = nI (L j) ∧ L j ≤ 8) (least : Int32) (post : Int32 → Prop)
    (hp : post (nI (ft_Dp (ft_Hit cp L wt s least) L s))) : ∃ n, wX_deepest_10 post least (nI d) (nI s) st cp ln wt n 0 0 := by
  refine loop_0 (fun n i x => wX_deepest_10 post least (nI d) (nI s) st cp ln wt n x (nI i)) (fun i x => x = nI (ft_Dp (ft_Hit cp L wt s least) L i)) s 0 rfl ?_ ?_
  · intro n x hx
    subst hx
    exact br_t (nI_le (Nat.le_refl s) (by omega)) hp
  · intro n i x hi hx hn
    subst hx
    exact br_f (nI_ge hi (by omega)) (nm_r (nI_1 _) (ft_Xdi hs hL (by omega) least (ft_dpB (fun j => (hL j).2) i) post _ (hn _ rfl)))
theorem ft_Ydo (hs : s ≤ 40) (hL : ∀ j, ln j = nI (L j) ∧ L j ≤ 8) (least : Int32) (hl1 : 0 < least) (post : Int32 → Prop)
    (hp : post (nI (ft_Dp (ft_Hit cp L wt s least) L s))) : ∃ n, wY_deepest_16 post least (nI d) (nI s) st cp ln wt n 0 0 := by
  refine loop_0 (fun n i x => wY_deepest_16 post least (nI d) (nI s) st cp ln wt n x (nI i)) (fun i x => x = nI (ft_Dp (ft_Hit cp L wt s least) L i)) s 0 rfl ?_ ?_
  · intro n x hx
    subst hx
    exact br_t (nI_le (Nat.le_refl s) (by omega)) hp
  · intro n i x hi hx hn
    subst hx
    exact br_f (nI_ge hi (by omega)) (ft_Ydi hs hL hi least hl1 (ft_dpB (fun j => (hL j).2) i) (ft_dpU i) post _ (hn _ rfl))
end
