section
variable {d s : Nat} {st cp ln wt : Nat → Int32} {L : Nat → Nat}
theorem ft_len (hL : ∀ j, ln j = nI (L j) ∧ L j ≤ 8) {j : Nat} (hj : j < 40) : ln (nI j).toNatClampNeg = nI (L j) := by
  rw [nI_clamp (by omega), (hL j).1]
theorem ft_Xov (hd : d ≤ 8) (hL : ∀ j, ln j = nI (L j) ∧ L j ≤ 8) {j : Nat} (hj : j < 40) (post : Int32 → Prop)
    (h1 : ft_Ov d st cp L j → post 1) (h0 : ¬ ft_Ov d st cp L j → post 0) :
    wpX_beginsWithStack post (nI d, nI s, st, cp, ln, wt) (nI j) := by
  have el := ft_len hL hj
  have hl := (hL j).2
  refine ⟨vp_in_nI hj (by omega), ?_⟩
  refine ek_if (d := d ≤ L j) (by rw [el]; exact nI_leI (by omega) (by omega)) (fun hle => ?_) (fun hn => h0 (fun z => hn z.1))
  refine nm_r (ft_xm j) ?_
  refine loop_0 (fun n i (_ : Unit) => wX_beginsWithStack_22 post (nI (8 * j)) (nI d) (nI s) st cp ln wt n (nI i)) (fun i _ => ∀ k, k < i → cp (8 * j + k) = st k) d () (fun k hk => absurd hk (Nat.not_lt_zero k)) ?_ ?_
  · intro n _ hI
    exact br_t (nI_le (Nat.le_refl d) (by omega)) (h1 ⟨hle, hI⟩)
  · intro n i _ hi hI hn
    refine br_f (nI_ge hi (by omega)) ⟨ft_in j i (by omega), vp_in_nI (by omega) (by omega), ?_⟩
    refine ek_if (d := cp (8 * j + i) = st i) (by rw [ft_cl j i (by omega), nI_clamp (by omega)]) (fun e => ?_) (fun e => h0 (fun z => e (z.2 i hi)))
    exact nm_r (nI_1 i) (hn () (lt_s hI e))
theorem ft_Yov (hd : d ≤ 8) (hL : ∀ j, ln j = nI (L j) ∧ L j ≤ 8) {j : Nat} (hj : j < 40) (post : Int32 → Prop)
    (h1 : ft_Ov d st cp L j → post 1) (h0 : ¬ ft_Ov d st cp L j → post 0) :
    wpY_over post (nI d, nI s, st, cp, ln, wt) (nI j) := by
  have el := ft_len hL hj
  have hl := (hL j).2
  refine ⟨vp_in_nI hj (by omega), ?_⟩
  refine ek_if (d := d ≤ L j) (by rw [el]; exact nI_leI (by omega) (by omega)) (fun hle => ?_) (fun hn => h0 (fun z => hn z.1))
  refine loop_0 (fun n i (_ : Unit) => wY_over_17 post (nI j) (nI d) (nI s) st cp ln wt n (nI i)) (fun i _ => ∀ k, k < i → cp (8 * j + k) = st k) d () (fun k hk => absurd hk (Nat.not_lt_zero k)) ?_ ?_
  · intro n _ hI
    exact br_t (nI_le (Nat.le_refl d) (by omega)) (h1 ⟨hle, hI⟩)
  · intro n i _ hi hI hn
    refine br_f (nI_ge hi (by omega)) ⟨ft_iny j i (by omega), vp_in_nI (by omega) (by omega), ?_⟩
    refine ek_if (d := cp (8 * j + i) = st i) (by rw [ft_cly j i (by omega), nI_clamp (by omega)]) (fun e => ?_) (fun e => h0 (fun z => e (z.2 i hi)))
    exact nm_r (nI_1 i) (hn () (lt_s hI e))
theorem ft_Xsh (hL : ∀ j, ln j = nI (L j) ∧ L j ≤ 8) {a b k : Nat} (ha : a < 40) (hb : b < 40) (hk : k ≤ 8) (post : Int32 → Prop)
    (h1 : ft_Sh cp L k a b → post 1) (h0 : ¬ ft_Sh cp L k a b → post 0) :
    wpX_shareBeginning post (nI d, nI s, st, cp, ln, wt) (nI a) (nI b) (nI k) := by
  have ea := ft_len hL ha
  have eb := ft_len hL hb
  have hla := (hL a).2
  have hlb := (hL b).2
  refine ⟨vp_in_nI ha (by omega), ?_⟩
  refine ek_if (d := L a < k) (by rw [ea]; exact nI_ltI (by omega) (by omega)) (fun h => h0 (fun z => Nat.not_le.mpr h z.1)) (fun h => ?_)
  have hA : k ≤ L a := Nat.not_lt.mp h
  refine ⟨vp_in_nI hb (by omega), ?_⟩
  refine ek_if (d := k ≤ L b) (by rw [eb]; exact nI_leI (by omega) (by omega)) (fun hB => ?_) (fun h => h0 (fun z => h z.2.1))
  refine nm_r (ft_xm a) (nm_r (ft_xm b) ?_)
  refine loop_0 (fun n i (_ : Unit) => wX_shareBeginning_37 post (nI k) (nI (8 * a)) (nI (8 * b)) (nI d) (nI s) st cp ln wt n (nI i)) (fun i _ => ∀ q, q < i → cp (8 * a + q) = cp (8 * b + q)) k () (fun q hq => absurd hq (Nat.not_lt_zero q)) ?_ ?_
  · intro n _ hI
    exact br_t (nI_le (Nat.le_refl k) (by omega)) (h1 ⟨hA, hB, hI⟩)
  · intro n i _ hi hI hn
    refine br_f (nI_ge hi (by omega)) ⟨ft_in a i (by omega), ft_in b i (by omega), ?_⟩
    refine ek_if (d := cp (8 * a + i) = cp (8 * b + i)) (by rw [ft_cl a i (by omega), ft_cl b i (by omega)]) (fun e => ?_) (fun e => h0 (fun z => e (z.2.2 i hi)))
    exact nm_r (nI_1 i) (hn () (lt_s hI e))
theorem ft_Ysh (hL : ∀ j, ln j = nI (L j) ∧ L j ≤ 8) {a b k : Nat} (ha : a < 40) (hb : b < 40) (hk : k ≤ 8) (post : Int32 → Prop)
    (h1 : ft_Sh cp L k a b → post 1) (h0 : ¬ ft_Sh cp L k a b → post 0) :
    wpY_share post (nI d, nI s, st, cp, ln, wt) (nI a) (nI b) (nI k) := by
  have ea := ft_len hL ha
  have eb := ft_len hL hb
  have hla := (hL a).2
  have hlb := (hL b).2
  refine ⟨vp_in_nI ha (by omega), ?_⟩
  refine ek_if (d := L a < k) (by rw [ea]; exact nI_ltI (by omega) (by omega)) (fun h => h0 (fun z => Nat.not_le.mpr h z.1)) (fun h => ?_)
  have hA : k ≤ L a := Nat.not_lt.mp h
  refine ⟨vp_in_nI hb (by omega), ?_⟩
  refine ek_if (d := k ≤ L b) (by rw [eb]; exact nI_leI (by omega) (by omega)) (fun hB => ?_) (fun h => h0 (fun z => h z.2.1))
  refine loop_0 (fun n i (_ : Unit) => wY_share_25 post (nI a) (nI b) (nI k) (nI d) (nI s) st cp ln wt n (nI i)) (fun i _ => ∀ q, q < i → cp (8 * a + q) = cp (8 * b + q)) k () (fun q hq => absurd hq (Nat.not_lt_zero q)) ?_ ?_
  · intro n _ hI
    exact br_t (nI_le (Nat.le_refl k) (by omega)) (h1 ⟨hA, hB, hI⟩)
  · intro n i _ hi hI hn
    refine br_f (nI_ge hi (by omega)) ⟨ft_iny a i (by omega), ft_iny b i (by omega), ?_⟩
    refine ek_if (d := cp (8 * a + i) = cp (8 * b + i)) (by rw [ft_cly a i (by omega), ft_cly b i (by omega)]) (fun e => ?_) (fun e => h0 (fun z => e (z.2.2 i hi)))
    exact nm_r (nI_1 i) (hn () (lt_s hI e))
theorem ft_Xhas (hL : ∀ j, ln j = nI (L j) ∧ L j ≤ 8) {j : Nat} (hj : j < 40) (f : Int32) (post : Int32 → Prop)
    (h1 : ft_Has cp L f j → post 1) (h0 : ¬ ft_Has cp L f j → post 0) :
    wpX_holdsFunction post (nI d, nI s, st, cp, ln, wt) (nI j) f := by
  have el := ft_len hL hj
  have hl := (hL j).2
  refine nm_r (ft_xm j) ?_
  refine loop_0 (fun n i (_ : Unit) => wX_holdsFunction_8 post (nI j) f (nI (8 * j)) (nI d) (nI s) st cp ln wt n (nI i)) (fun i _ => ∀ q, q < i → ¬ cp (8 * j + q) = f) (L j) () (fun q hq => absurd hq (Nat.not_lt_zero q)) ?_ ?_
  · intro n _ hI
    exact ⟨vp_in_nI hj (by omega), br_t (by rw [el]; exact nI_le (Nat.le_refl _) (by omega)) (h0 (fun ⟨i, hi, e⟩ => hI i hi e))⟩
  · intro n i _ hi hI hn
    refine ⟨vp_in_nI hj (by omega), br_f (by rw [el]; exact nI_ge hi (by omega)) ⟨ft_in j i (by omega), ?_⟩⟩
    refine ek_if (d := cp (8 * j + i) = f) (by rw [ft_cl j i (by omega)]) (fun e => h1 ⟨i, hi, e⟩) (fun e => ?_)
    exact nm_r (nI_1 i) (hn () (lt_s hI e))
theorem ft_Xend (hL : ∀ j, ln j = nI (L j) ∧ L j ≤ 8) {j : Nat} (hj : j < 40) (f : Int32) (post : Int32 → Prop)
    (h1 : ft_End cp L f j → post 1) (h0 : ¬ ft_End cp L f j → post 0) :
    wpX_endsWithFunction post (nI d, nI s, st, cp, ln, wt) (nI j) f := by
  have el := ft_len hL hj
  have hl := (hL j).2
  refine ⟨vp_in_nI hj (by omega), nm_r el ?_⟩
  cases hz : L j with
  | zero => exact br_t (nI_le (Nat.le_refl 0) (by decide)) (h0 (fun ⟨i, e, _⟩ => by omega))
  | succ i =>
    refine br_f (nI_nle (by omega) (by omega)) ?_
    rw [ft_prx]
    refine ⟨vp_in_nI (by omega) (by omega), ?_⟩
    refine ek_if (d := cp (8 * j + i) = f) (by rw [nI_clamp (by omega)]) (fun e => h1 ⟨i, hz, e⟩) (fun e => h0 (fun z => ?_))
    obtain ⟨k, ek, e2⟩ := z
    have hk : k = i := by omega
    subst hk
    exact e e2
theorem ft_Xedg (hL : ∀ j, ln j = nI (L j) ∧ L j ≤ 8) {j : Nat} (hj : j < 40) (f g : Int32) (post : Int32 → Prop)
    (h1 : ft_Edg cp L f g j → post 1) (h0 : ¬ ft_Edg cp L f g j → post 0) :
    wpX_holdsEdge post (nI d, nI s, st, cp, ln, wt) (nI j) f g := by
  have el := ft_len hL hj
  have hl := (hL j).2
  refine nm_r (ft_xm j) ?_
  refine loop_0 (fun n i (_ : Unit) => wX_holdsEdge_9 post (nI j) f g (nI (8 * j)) (nI d) (nI s) st cp ln wt n (nI (i + 1))) (fun i _ => ∀ q, q < i → ¬ (cp (8 * j + q) = f ∧ cp (8 * j + (q + 1)) = g)) (L j - 1) () (fun q hq => absurd hq (Nat.not_lt_zero q)) ?_ ?_
  · intro n _ hI
    exact ⟨vp_in_nI hj (by omega), br_t (by rw [el]; exact nI_le (by omega) (by omega)) (h0 (fun ⟨i, hi, e⟩ => hI i (by omega) e))⟩
  · intro n i _ hi hI hn
    refine ⟨vp_in_nI hj (by omega), br_f (by rw [el]; exact nI_ge (by omega) (by omega)) ⟨by rw [ft_pr]; exact vp_in_nI (by omega) (by omega), ?_⟩⟩
    refine ek_if (d := cp (8 * j + i) = f) (by rw [ft_pr, nI_clamp (by omega)]) (fun e => ⟨ft_in j (i + 1) (by omega), ?_⟩) (fun e => nm_r (nI_1 (i + 1)) (hn () (lt_s hI (fun z => e z.1))))
    exact ek_if (d := cp (8 * j + (i + 1)) = g) (by rw [ft_cl j (i + 1) (by omega)]) (fun e2 => h1 ⟨i, by omega, e, e2⟩) (fun e2 => nm_r (nI_1 (i + 1)) (hn () (lt_s hI (fun z => e2 z.2))))
theorem ft_Yst (hL : ∀ j, ln j = nI (L j) ∧ L j ≤ 8) {j : Nat} (hj : j < 40) (a f : Int32) (post : Int32 → Prop)
    (h1 : ft_St cp L a f j → post 1) (h0 : ¬ ft_St cp L a f j → post 0) :
    wpY_stands post (nI d, nI s, st, cp, ln, wt) (nI j) a f := by
  have el := ft_len hL hj
  have hl := (hL j).2
  refine loop_0 (fun n i (_ : Unit) => wY_stands_3 post (nI j) a f (nI d) (nI s) st cp ln wt n (nI i)) (fun i _ => ∀ q, q < i → ¬ (cp (8 * j + q) = f ∧ (a < 0 ∨ ∃ k, q = k + 1 ∧ cp (8 * j + k) = a))) (L j) () (fun q hq => absurd hq (Nat.not_lt_zero q)) ?_ ?_
  · intro n _ hI
    exact ⟨vp_in_nI hj (by omega), br_t (by rw [el]; exact nI_le (Nat.le_refl _) (by omega)) (h0 (fun ⟨i, hi, e⟩ => hI i hi e))⟩
  · intro n i _ hi hI hn
    have hT : (a < 0 ∨ ∃ k, i = k + 1 ∧ cp (8 * j + k) = a) → wY_stands_41 post (wY_stands_3 post (nI j) a f (nI d) (nI s) st cp ln wt n) (nI j) a f (nI i) (nI d) (nI s) st cp ln wt := by
      intro hb
      refine ⟨ft_iny j i (by omega), ?_⟩
      exact ek_if (d := cp (8 * j + i) = f) (by rw [ft_cly j i (by omega)]) (fun e => br_f ft_z1 (h1 ⟨i, hi, e, hb⟩)) (fun e => nm_r (nI_1 i) (hn () (lt_s hI (fun z => e z.1))))
    have hF : ¬ (a < 0 ∨ ∃ k, i = k + 1 ∧ cp (8 * j + k) = a) → wY_stands_45 post (wY_stands_3 post (nI j) a f (nI d) (nI s) st cp ln wt n) (nI j) a f (nI i) (nI d) (nI s) st cp ln wt := by
      intro hb
      have hg := hn () (lt_s hI (fun z => hb z.2))
      refine ⟨ft_iny j i (by omega), ?_⟩
      exact ek_if (d := cp (8 * j + i) = f) (by rw [ft_cly j i (by omega)]) (fun e => br_t rfl (nm_r (nI_1 i) hg)) (fun e => nm_r (nI_1 i) hg)
    refine ⟨vp_in_nI hj (by omega), br_f (by rw [el]; exact nI_ge hi (by omega)) ?_⟩
    refine br_c (fun ha => hT (Or.inl ha)) (fun ha => ?_)
    cases i with
    | zero =>
      exact br_t (nI_le (Nat.le_refl 0) (by decide)) (hF (fun z => by
        cases z with
        | inl z => exact ha z
        | inr z => obtain ⟨k, ek, _⟩ := z; omega))
    | succ i =>
      refine br_f (nI_nle (by omega) (by omega)) ⟨by rw [ft_pry]; exact vp_in_nI (by omega) (by omega), ?_⟩
      refine ek_if (d := cp (8 * j + i) = a) (by rw [ft_pry, nI_clamp (by omega)]) (fun e => hT (Or.inr ⟨i, rfl, e⟩)) (fun e => hF (fun z => ?_))
      cases z with
      | inl z => exact ha z
      | inr z =>
        obtain ⟨k, ek, e2⟩ := z
        have hk : k = i := by omega
        subst hk
        exact e e2
end
