section
variable {d s : Nat} {st cp ln wt : Nat → Int32} {L : Nat → Nat}
theorem ft_Xhot (hd : d ≤ 8) (hs : s ≤ 40) (hL : ∀ j, ln j = nI (L j) ∧ L j ≤ 8) (T : Nat → Int32) (hT : ∀ f, ft_Sum (ft_Nx d st cp L (nI f)) wt s = T f)
    (H : Nat → Int32 × Int32) (H0 : H 0 = (-1, 0)) (HT : ∀ f, T f ≤ (H f).2 → H (f + 1) = H f) (HF : ∀ f, ¬ T f ≤ (H f).2 → H (f + 1) = (nI f, T f))
    (post : Int32 → Prop) (hp : post (H 8).1) : wpX_hottest post (nI d, nI s, st, cp, ln, wt) := by
  refine loop_0 (fun n i (x : Int32 × Int32) => wX_hottest_6 post (nI d) (nI s) st cp ln wt n x.1 x.2 (nI i)) (fun i x => x = H i) 8 (-1, 0) H0.symm ?_ ?_
  · intro n x hx
    subst hx
    exact br_t (nI_le (Nat.le_refl 8) (by decide)) hp
  · intro n i x hi hx hn
    subst hx
    refine br_f (nI_ge (b := 8) hi (by decide)) (ft_Xnext hd hs hL (nI i) _ ?_)
    rw [hT i]
    exact br_c (fun h => nm_r (nI_1 i) (hn _ (HT i h).symm)) (fun h => nm_r (nI_1 i) (hn (nI i, T i) (HF i h).symm))
theorem ft_Yhot (hd : d ≤ 8) (hs : s ≤ 40) (hL : ∀ j, ln j = nI (L j) ∧ L j ≤ 8) (T : Nat → Int32) (hT : ∀ f, ft_Sum (ft_Nx d st cp L (nI f)) wt s = T f)
    (H : Nat → Int32 × Int32) (H0 : H 0 = (-1, 0)) (HT : ∀ f, T f ≤ (H f).2 → H (f + 1) = H f) (HF : ∀ f, ¬ T f ≤ (H f).2 → H (f + 1) = (nI f, T f))
    (post : Int32 → Prop) (hp : post (H 8).1) (h8 : d < 8) : wpY_hottest post (nI d, nI s, st, cp, ln, wt) := by
  refine loop_0 (fun n i (x : Int32 × Int32) => wY_hottest_6 post (nI d) (nI s) st cp ln wt n x.1 x.2 (nI i)) (fun i x => x = H i) 8 (-1, 0) H0.symm ?_ ?_
  · intro n x hx
    subst hx
    exact br_t (nI_le (Nat.le_refl 8) (by decide)) hp
  · intro n i x hi hx hn
    subst hx
    refine br_f (nI_ge (b := 8) hi (by decide)) (br_f (nI_ge (b := 8) h8 (by decide)) (ft_Ynext hd hs hL (nI i) _ ?_))
    rw [hT i]
    exact br_c (fun h => nm_r (nI_1 i) (hn _ (HT i h).symm)) (fun h => nm_r (nI_1 i) (hn (nI i, T i) (HF i h).symm))
theorem ft_Yhot8 (hd : d = 8) (post : Int32 → Prop) (hp : post (-1)) : wpY_hottest post (nI d, nI s, st, cp, ln, wt) := by
  subst hd
  exact ⟨1, br_f (nI_ge (a := 0) (b := 8) (by decide) (by decide)) (br_t (nI_le (Nat.le_refl 8) (by decide)) hp)⟩
theorem ft_hot (hd : d ≤ 8) (hs : s ≤ 40) (hL : ∀ j, ln j = nI (L j) ∧ L j ≤ 8) :
    ∃ r : Int32, (∀ post : Int32 → Prop, post r → wpX_hottest post (nI d, nI s, st, cp, ln, wt)) ∧ (∀ post : Int32 → Prop, post r → wpY_hottest post (nI d, nI s, st, cp, ln, wt)) := by
  obtain ⟨T, hT⟩ : ∃ T : Nat → Int32, ∀ f, ft_Sum (ft_Nx d st cp L (nI f)) wt s = T f := ⟨_, fun _ => rfl⟩
  obtain ⟨H, H0, HT, HF⟩ : ∃ H : Nat → Int32 × Int32, H 0 = (-1, 0) ∧ (∀ f, T f ≤ (H f).2 → H (f + 1) = H f) ∧ (∀ f, ¬ T f ≤ (H f).2 → H (f + 1) = (nI f, T f)) :=
    ⟨ft_Ht T, rfl, fun _ h => ft_htT h, fun _ h => ft_htF h⟩
  refine ⟨(H 8).1, fun post hp => ft_Xhot hd hs hL T hT H H0 HT HF post hp, fun post hp => ?_⟩
  by_cases h8 : d < 8
  · exact ft_Yhot hd hs hL T hT H H0 HT HF post hp h8
  · have h0 : ∀ f, T f = 0 := fun f => by
      rw [← hT f]
      exact ft_sum0 s (fun j hj z => absurd z.1 (by have := (hL j).2; omega))
    have e : ∀ f, H f = (-1, 0) := by
      intro f
      induction f with
      | zero => exact H0
      | succ f ih => rw [HT f (by rw [ih, h0 f]; exact Int32.le_refl 0), ih]
    rw [e 8] at hp
    exact ft_Yhot8 (by omega) post hp
end
