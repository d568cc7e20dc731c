section
theorem pk_mul (a b : Nat) : nI a * nI b = nI (a * b) := (Int32.ofNat_mul a b).symm
theorem pk_us {f : Nat → Int32} {k : Nat} {x : Int32} : upd f k x k = x := if_pos rfl
theorem pk_un {f : Nat → Int32} {k j : Nat} {x : Int32} (h : j ≠ k) : upd f k x j = f j := if_neg h
theorem ek_if {c d A B : Prop} (e : c ↔ d) (f : d → A) (g : ¬ d → B) : (c → A) ∧ (¬ c → B) :=
  ⟨fun z => f (e.mp z), fun z => g (fun y => z (e.mpr y))⟩
theorem pk_loop {σ : Type} (W : Nat → Nat → σ → Prop) (I : Nat → σ → Prop) (e i0 : Nat) (s : σ) (hi : i0 ≤ e) (h0 : I i0 s) (hx : ∀ n s, I e s → W (n + 1) e s)
    (hs : ∀ n i s, i < e → I i s → (∀ s', I (i + 1) s' → W n (i + 1) s') → W (n + 1) i s) : ∃ n, W n i0 s :=
  ⟨e + 1, loop_i W I e hx hs (e + 1) i0 s hi (by omega) h0⟩
theorem ft_8 : nI 8 = 8 := by decide +kernel
theorem ft_40 : nI 40 = 40 := by decide +kernel
theorem ft_xm (j : Nat) : nI j * 8 = nI (8 * j) := by rw [← ft_8, pk_mul, Nat.mul_comm]
theorem ft_ym (j : Nat) : 8 * nI j = nI (8 * j) := by rw [← ft_8, pk_mul]
theorem ft_in (j i : Nat) (h : 8 * j + i < 320) : vp_in (nI (8 * j) + nI i) 320 := by
  rw [nI_add]; exact vp_in_nI h (by omega)
theorem ft_cl (j i : Nat) (h : 8 * j + i < 320) : (nI (8 * j) + nI i).toNatClampNeg = 8 * j + i := by
  rw [nI_add]; exact nI_clamp (by omega)
theorem ft_inx (j i : Nat) (h : 8 * j + i < 320) : vp_in (nI j * 8 + nI i) 320 := by
  rw [ft_xm]; exact ft_in j i h
theorem ft_clx (j i : Nat) (h : 8 * j + i < 320) : (nI j * 8 + nI i).toNatClampNeg = 8 * j + i := by
  rw [ft_xm]; exact ft_cl j i h
theorem ft_iny (j i : Nat) (h : 8 * j + i < 320) : vp_in (8 * nI j + nI i) 320 := by
  rw [ft_ym]; exact ft_in j i h
theorem ft_cly (j i : Nat) (h : 8 * j + i < 320) : (8 * nI j + nI i).toNatClampNeg = 8 * j + i := by
  rw [ft_ym]; exact ft_cl j i h
theorem ft_pr (j i : Nat) : nI (8 * j) + nI (i + 1) - 1 = nI (8 * j + i) := by
  rw [nI_add, ← Nat.add_assoc, nI_pred]
theorem ft_prx (j i : Nat) : nI j * 8 + nI (i + 1) - 1 = nI (8 * j + i) := by
  rw [ft_xm]; exact ft_pr j i
theorem ft_pry (j i : Nat) : 8 * nI j + nI (i + 1) - 1 = nI (8 * j + i) := by
  rw [ft_ym]; exact ft_pr j i
theorem ft_i1 : (-1 : Int32) < 0 := by decide
theorem ft_z1 : ¬ (1 : Int32) = 0 := by decide
noncomputable def ft_Sum (c : Nat → Prop) (w : Nat → Int32) : Nat → Int32
  | 0 => 0
  | j + 1 => @ite _ (c j) (Classical.propDecidable _) (ft_Sum c w j + w j) (ft_Sum c w j)
theorem ft_sumT {c : Nat → Prop} {w : Nat → Int32} {j : Nat} (h : c j) : ft_Sum c w (j + 1) = ft_Sum c w j + w j := by
  rw [ft_Sum]; exact if_pos h
theorem ft_sumF {c : Nat → Prop} {w : Nat → Int32} {j : Nat} (h : ¬ c j) : ft_Sum c w (j + 1) = ft_Sum c w j := by
  rw [ft_Sum]; exact if_neg h
theorem ft_sumC {c c' : Nat → Prop} {w : Nat → Int32} : ∀ s : Nat, (∀ j, j < s → (c j ↔ c' j)) → ft_Sum c w s = ft_Sum c' w s := by
  intro s
  induction s with
  | zero => intro _; rfl
  | succ s ih =>
    intro h
    have hi := ih (fun j hj => h j (by omega))
    by_cases z : c s
    · rw [ft_sumT z, ft_sumT ((h s (by omega)).mp z), hi]
    · rw [ft_sumF z, ft_sumF (fun y => z ((h s (by omega)).mpr y)), hi]
theorem ft_sum0 {c : Nat → Prop} {w : Nat → Int32} : ∀ s : Nat, (∀ j, j < s → ¬ c j) → ft_Sum c w s = 0 := by
  intro s
  induction s with
  | zero => intro _; rfl
  | succ s ih =>
    intro h
    rw [ft_sumF (h s (by omega)), ih (fun j hj => h j (by omega))]
def ft_Ov (d : Nat) (st cp : Nat → Int32) (L : Nat → Nat) (j : Nat) : Prop := d ≤ L j ∧ ∀ i, i < d → cp (8 * j + i) = st i
def ft_Sh (cp : Nat → Int32) (L : Nat → Nat) (n a b : Nat) : Prop := n ≤ L a ∧ n ≤ L b ∧ ∀ i, i < n → cp (8 * a + i) = cp (8 * b + i)
def ft_Has (cp : Nat → Int32) (L : Nat → Nat) (f : Int32) (j : Nat) : Prop := ∃ i, i < L j ∧ cp (8 * j + i) = f
def ft_End (cp : Nat → Int32) (L : Nat → Nat) (f : Int32) (j : Nat) : Prop := ∃ i, L j = i + 1 ∧ cp (8 * j + i) = f
def ft_Edg (cp : Nat → Int32) (L : Nat → Nat) (a b : Int32) (j : Nat) : Prop := ∃ i, i + 1 < L j ∧ cp (8 * j + i) = a ∧ cp (8 * j + (i + 1)) = b
def ft_St (cp : Nat → Int32) (L : Nat → Nat) (a f : Int32) (j : Nat) : Prop := ∃ i, i < L j ∧ cp (8 * j + i) = f ∧ (a < 0 ∨ ∃ k, i = k + 1 ∧ cp (8 * j + k) = a)
def ft_Fst (cp : Nat → Int32) (L : Nat → Nat) (n j : Nat) : Prop := ∀ t, t < j → ¬ ft_Sh cp L n t j
theorem ft_shS {cp : Nat → Int32} {L : Nat → Nat} {n a b : Nat} (h : ft_Sh cp L n a b) : ft_Sh cp L n b a :=
  ⟨h.2.1, h.1, fun i hi => (h.2.2 i hi).symm⟩
theorem ft_shT {cp : Nat → Int32} {L : Nat → Nat} {n a b c : Nat} (h : ft_Sh cp L n a b) (g : ft_Sh cp L n b c) : ft_Sh cp L n a c :=
  ⟨h.1, g.2.1, fun i hi => (h.2.2 i hi).trans (g.2.2 i hi)⟩
theorem ft_stI {cp : Nat → Int32} {L : Nat → Nat} {f : Int32} {j : Nat} : ft_St cp L (-1) f j ↔ ft_Has cp L f j :=
  ⟨fun ⟨i, h, e, _⟩ => ⟨i, h, e⟩, fun ⟨i, h, e⟩ => ⟨i, h, e, Or.inl ft_i1⟩⟩
theorem ft_stE {cp : Nat → Int32} {L : Nat → Nat} {a f : Int32} {j : Nat} (ha : ¬ a < 0) : ft_St cp L a f j ↔ ft_Edg cp L a f j := by
  constructor
  · intro ⟨i, h, e, z⟩
    cases z with
    | inl z => exact absurd z ha
    | inr z =>
      obtain ⟨k, rfl, ek⟩ := z
      exact ⟨k, h, ek, e⟩
  · intro ⟨i, h, e, z⟩
    exact ⟨i + 1, h, z, Or.inr ⟨i, rfl, e⟩⟩
end
section
section
variable {d s : Nat} {st cp ln wt : Nat → Int32} {L : Nat → Nat}
theorem ft_len (hL : ∀ j, ln j = nI (L j) ∧ L j ≤ 8) {j : Nat} (hj : j < 40) : ln (nI j).toNatClampNeg = nI (L j) := by
  rw [nI_clamp (by omega), (hL j).1]
theorem ft_Xov (hd : d ≤ 8) (hL : ∀ j, ln j = nI (L j) ∧ L j ≤ 8) {j : Nat} (hj : j < 40) (post : Int32 → Prop)
    (h1 : ft_Ov d st cp L j → post 1) (h0 : ¬ ft_Ov d st cp L j → post 0) :
    wpX_beginsWithStack post (nI d, nI s, st, cp, ln, wt) (nI j) := by
  have el := ft_len hL hj
  have hl := (hL j).2
  refine ⟨vp_in_nI hj (by omega), ?_⟩
  refine ek_if (d := d ≤ L j) (by rw [el]; exact nI_leI (by omega) (by omega)) (fun hle => ?_) (fun hn => h0 (fun z => hn z.1))
  refine nm_r (ft_xm j) ?_
  refine loop_0 (fun n i (_ : Unit) => wX_beginsWithStack_22 post (nI (8 * j)) (nI d) (nI s) st cp ln wt n (nI i)) (fun i _ => ∀ k, k < i → cp (8 * j + k) = st k) d () (fun k hk => absurd hk (Nat.not_lt_zero k)) ?_ ?_
  · intro n _ hI
    exact br_t (nI_le (Nat.le_refl d) (by omega)) (h1 ⟨hle, hI⟩)
  · intro n i _ hi hI hn
    refine br_f (nI_ge hi (by omega)) ⟨ft_in j i (by omega), vp_in_nI (by omega) (by omega), ?_⟩
    refine ek_if (d := cp (8 * j + i) = st i) (by rw [ft_cl j i (by omega), nI_clamp (by omega)]) (fun e => ?_) (fun e => h0 (fun z => e (z.2 i hi)))
    exact nm_r (nI_1 i) (hn () (lt_s hI e))
theorem ft_Yov (hd : d ≤ 8) (hL : ∀ j, ln j = nI (L j) ∧ L j ≤ 8) {j : Nat} (hj : j < 40) (post : Int32 → Prop)
    (h1 : ft_Ov d st cp L j → post 1) (h0 : ¬ ft_Ov d st cp L j → post 0) :
    wpY_over post (nI d, nI s, st, cp, ln, wt) (nI j) := by
  have el := ft_len hL hj
  have hl := (hL j).2
  refine ⟨vp_in_nI hj (by omega), ?_⟩
  refine ek_if (d := d ≤ L j) (by rw [el]; exact nI_leI (by omega) (by omega)) (fun hle => ?_) (fun hn => h0 (fun z => hn z.1))
  refine loop_0 (fun n i (_ : Unit) => wY_over_17 post (nI j) (nI d) (nI s) st cp ln wt n (nI i)) (fun i _ => ∀ k, k < i → cp (8 * j + k) = st k) d () (fun k hk => absurd hk (Nat.not_lt_zero k)) ?_ ?_
  · intro n _ hI
    exact br_t (nI_le (Nat.le_refl d) (by omega)) (h1 ⟨hle, hI⟩)
  · intro n i _ hi hI hn
    refine br_f (nI_ge hi (by omega)) ⟨ft_iny j i (by omega), vp_in_nI (by omega) (by omega), ?_⟩
    refine ek_if (d := cp (8 * j + i) = st i) (by rw [ft_cly j i (by omega), nI_clamp (by omega)]) (fun e => ?_) (fun e => h0 (fun z => e (z.2 i hi)))
    exact nm_r (nI_1 i) (hn () (lt_s hI e))
theorem ft_Xsh (hL : ∀ j, ln j = nI (L j) ∧ L j ≤ 8) {a b k : Nat} (ha : a < 40) (hb : b < 40) (hk : k ≤ 8) (post : Int32 → Prop)
    (h1 : ft_Sh cp L k a b → post 1) (h0 : ¬ ft_Sh cp L k a b → post 0) :
    wpX_shareBeginning post (nI d, nI s, st, cp, ln, wt) (nI a) (nI b) (nI k) := by
  have ea := ft_len hL ha
  have eb := ft_len hL hb
  have hla := (hL a).2
  have hlb := (hL b).2
  refine ⟨vp_in_nI ha (by omega), ?_⟩
  refine ek_if (d := L a < k) (by rw [ea]; exact nI_ltI (by omega) (by omega)) (fun h => h0 (fun z => Nat.not_le.mpr h z.1)) (fun h => ?_)
  have hA : k ≤ L a := Nat.not_lt.mp h
  refine ⟨vp_in_nI hb (by omega), ?_⟩
  refine ek_if (d := k ≤ L b) (by rw [eb]; exact nI_leI (by omega) (by omega)) (fun hB => ?_) (fun h => h0 (fun z => h z.2.1))
  refine nm_r (ft_xm a) (nm_r (ft_xm b) ?_)
  refine loop_0 (fun n i (_ : Unit) => wX_shareBeginning_37 post (nI k) (nI (8 * a)) (nI (8 * b)) (nI d) (nI s) st cp ln wt n (nI i)) (fun i _ => ∀ q, q < i → cp (8 * a + q) = cp (8 * b + q)) k () (fun q hq => absurd hq (Nat.not_lt_zero q)) ?_ ?_
  · intro n _ hI
    exact br_t (nI_le (Nat.le_refl k) (by omega)) (h1 ⟨hA, hB, hI⟩)
  · intro n i _ hi hI hn
    refine br_f (nI_ge hi (by omega)) ⟨ft_in a i (by omega), ft_in b i (by omega), ?_⟩
    refine ek_if (d := cp (8 * a + i) = cp (8 * b + i)) (by rw [ft_cl a i (by omega), ft_cl b i (by omega)]) (fun e => ?_) (fun e => h0 (fun z => e (z.2.2 i hi)))
    exact nm_r (nI_1 i) (hn () (lt_s hI e))
theorem ft_Ysh (hL : ∀ j, ln j = nI (L j) ∧ L j ≤ 8) {a b k : Nat} (ha : a < 40) (hb : b < 40) (hk : k ≤ 8) (post : Int32 → Prop)
    (h1 : ft_Sh cp L k a b → post 1) (h0 : ¬ ft_Sh cp L k a b → post 0) :
    wpY_share post (nI d, nI s, st, cp, ln, wt) (nI a) (nI b) (nI k) := by
  have ea := ft_len hL ha
  have eb := ft_len hL hb
  have hla := (hL a).2
  have hlb := (hL b).2
  refine ⟨vp_in_nI ha (by omega), ?_⟩
  refine ek_if (d := L a < k) (by rw [ea]; exact nI_ltI (by omega) (by omega)) (fun h => h0 (fun z => Nat.not_le.mpr h z.1)) (fun h => ?_)
  have hA : k ≤ L a := Nat.not_lt.mp h
  refine ⟨vp_in_nI hb (by omega), ?_⟩
  refine ek_if (d := k ≤ L b) (by rw [eb]; exact nI_leI (by omega) (by omega)) (fun hB => ?_) (fun h => h0 (fun z => h z.2.1))
  refine loop_0 (fun n i (_ : Unit) => wY_share_25 post (nI a) (nI b) (nI k) (nI d) (nI s) st cp ln wt n (nI i)) (fun i _ => ∀ q, q < i → cp (8 * a + q) = cp (8 * b + q)) k () (fun q hq => absurd hq (Nat.not_lt_zero q)) ?_ ?_
  · intro n _ hI
    exact br_t (nI_le (Nat.le_refl k) (by omega)) (h1 ⟨hA, hB, hI⟩)
  · intro n i _ hi hI hn
    refine br_f (nI_ge hi (by omega)) ⟨ft_iny a i (by omega), ft_iny b i (by omega), ?_⟩
    refine ek_if (d := cp (8 * a + i) = cp (8 * b + i)) (by rw [ft_cly a i (by omega), ft_cly b i (by omega)]) (fun e => ?_) (fun e => h0 (fun z => e (z.2.2 i hi)))
    exact nm_r (nI_1 i) (hn () (lt_s hI e))
theorem ft_Xhas (hL : ∀ j, ln j = nI (L j) ∧ L j ≤ 8) {j : Nat} (hj : j < 40) (f : Int32) (post : Int32 → Prop)
    (h1 : ft_Has cp L f j → post 1) (h0 : ¬ ft_Has cp L f j → post 0) :
    wpX_holdsFunction post (nI d, nI s, st, cp, ln, wt) (nI j) f := by
  have el := ft_len hL hj
  have hl := (hL j).2
  refine nm_r (ft_xm j) ?_
  refine loop_0 (fun n i (_ : Unit) => wX_holdsFunction_8 post (nI j) f (nI (8 * j)) (nI d) (nI s) st cp ln wt n (nI i)) (fun i _ => ∀ q, q < i → ¬ cp (8 * j + q) = f) (L j) () (fun q hq => absurd hq (Nat.not_lt_zero q)) ?_ ?_
  · intro n _ hI
    exact ⟨vp_in_nI hj (by omega), br_t (by rw [el]; exact nI_le (Nat.le_refl _) (by omega)) (h0 (fun ⟨i, hi, e⟩ => hI i hi e))⟩
  · intro n i _ hi hI hn
    refine ⟨vp_in_nI hj (by omega), br_f (by rw [el]; exact nI_ge hi (by omega)) ⟨ft_in j i (by omega), ?_⟩⟩
    refine ek_if (d := cp (8 * j + i) = f) (by rw [ft_cl j i (by omega)]) (fun e => h1 ⟨i, hi, e⟩) (fun e => ?_)
    exact nm_r (nI_1 i) (hn () (lt_s hI e))
theorem ft_Xend (hL : ∀ j, ln j = nI (L j) ∧ L j ≤ 8) {j : Nat} (hj : j < 40) (f : Int32) (post : Int32 → Prop)
    (h1 : ft_End cp L f j → post 1) (h0 : ¬ ft_End cp L f j → post 0) :
    wpX_endsWithFunction post (nI d, nI s, st, cp, ln, wt) (nI j) f := by
  have el := ft_len hL hj
  have hl := (hL j).2
  refine ⟨vp_in_nI hj (by omega), nm_r el ?_⟩
  cases hz : L j with
  | zero => exact br_t (nI_le (Nat.le_refl 0) (by decide)) (h0 (fun ⟨i, e, _⟩ => by omega))
  | succ i =>
    refine br_f (nI_nle (by omega) (by omega)) ?_
    rw [ft_prx]
    refine ⟨vp_in_nI (by omega) (by omega), ?_⟩
    refine ek_if (d := cp (8 * j + i) = f) (by rw [nI_clamp (by omega)]) (fun e => h1 ⟨i, hz, e⟩) (fun e => h0 (fun z => ?_))
    obtain ⟨k, ek, e2⟩ := z
    have hk : k = i := by omega
    subst hk
    exact e e2
theorem ft_Xedg (hL : ∀ j, ln j = nI (L j) ∧ L j ≤ 8) {j : Nat} (hj : j < 40) (f g : Int32) (post : Int32 → Prop)
    (h1 : ft_Edg cp L f g j → post 1) (h0 : ¬ ft_Edg cp L f g j → post 0) :
    wpX_holdsEdge post (nI d, nI s, st, cp, ln, wt) (nI j) f g := by
  have el := ft_len hL hj
  have hl := (hL j).2
  refine nm_r (ft_xm j) ?_
  refine loop_0 (fun n i (_ : Unit) => wX_holdsEdge_9 post (nI j) f g (nI (8 * j)) (nI d) (nI s) st cp ln wt n (nI (i + 1))) (fun i _ => ∀ q, q < i → ¬ (cp (8 * j + q) = f ∧ cp (8 * j + (q + 1)) = g)) (L j - 1) () (fun q hq => absurd hq (Nat.not_lt_zero q)) ?_ ?_
  · intro n _ hI
    exact ⟨vp_in_nI hj (by omega), br_t (by rw [el]; exact nI_le (by omega) (by omega)) (h0 (fun ⟨i, hi, e⟩ => hI i (by omega) e))⟩
  · intro n i _ hi hI hn
    refine ⟨vp_in_nI hj (by omega), br_f (by rw [el]; exact nI_ge (by omega) (by omega)) ⟨by rw [ft_pr]; exact vp_in_nI (by omega) (by omega), ?_⟩⟩
    refine ek_if (d := cp (8 * j + i) = f) (by rw [ft_pr, nI_clamp (by omega)]) (fun e => ⟨ft_in j (i + 1) (by omega), ?_⟩) (fun e => nm_r (nI_1 (i + 1)) (hn () (lt_s hI (fun z => e z.1))))
    exact ek_if (d := cp (8 * j + (i + 1)) = g) (by rw [ft_cl j (i + 1) (by omega)]) (fun e2 => h1 ⟨i, by omega, e, e2⟩) (fun e2 => nm_r (nI_1 (i + 1)) (hn () (lt_s hI (fun z => e2 z.2))))
theorem ft_Yst (hL : ∀ j, ln j = nI (L j) ∧ L j ≤ 8) {j : Nat} (hj : j < 40) (a f : Int32) (post : Int32 → Prop)
    (h1 : ft_St cp L a f j → post 1) (h0 : ¬ ft_St cp L a f j → post 0) :
    wpY_stands post (nI d, nI s, st, cp, ln, wt) (nI j) a f := by
  have el := ft_len hL hj
  have hl := (hL j).2
  refine loop_0 (fun n i (_ : Unit) => wY_stands_3 post (nI j) a f (nI d) (nI s) st cp ln wt n (nI i)) (fun i _ => ∀ q, q < i → ¬ (cp (8 * j + q) = f ∧ (a < 0 ∨ ∃ k, q = k + 1 ∧ cp (8 * j + k) = a))) (L j) () (fun q hq => absurd hq (Nat.not_lt_zero q)) ?_ ?_
  · intro n _ hI
    exact ⟨vp_in_nI hj (by omega), br_t (by rw [el]; exact nI_le (Nat.le_refl _) (by omega)) (h0 (fun ⟨i, hi, e⟩ => hI i hi e))⟩
  · intro n i _ hi hI hn
    have hT : (a < 0 ∨ ∃ k, i = k + 1 ∧ cp (8 * j + k) = a) → wY_stands_41 post (wY_stands_3 post (nI j) a f (nI d) (nI s) st cp ln wt n) (nI j) a f (nI i) (nI d) (nI s) st cp ln wt := by
      intro hb
      refine ⟨ft_iny j i (by omega), ?_⟩
      exact ek_if (d := cp (8 * j + i) = f) (by rw [ft_cly j i (by omega)]) (fun e => br_f ft_z1 (h1 ⟨i, hi, e, hb⟩)) (fun e => nm_r (nI_1 i) (hn () (lt_s hI (fun z => e z.1))))
    have hF : ¬ (a < 0 ∨ ∃ k, i = k + 1 ∧ cp (8 * j + k) = a) → wY_stands_45 post (wY_stands_3 post (nI j) a f (nI d) (nI s) st cp ln wt n) (nI j) a f (nI i) (nI d) (nI s) st cp ln wt := by
      intro hb
      have hg := hn () (lt_s hI (fun z => hb z.2))
      refine ⟨ft_iny j i (by omega), ?_⟩
      exact ek_if (d := cp (8 * j + i) = f) (by rw [ft_cly j i (by omega)]) (fun e => br_t rfl (nm_r (nI_1 i) hg)) (fun e => nm_r (nI_1 i) hg)
    refine ⟨vp_in_nI hj (by omega), br_f (by rw [el]; exact nI_ge hi (by omega)) ?_⟩
    refine br_c (fun ha => hT (Or.inl ha)) (fun ha => ?_)
    cases i with
    | zero =>
      exact br_t (nI_le (Nat.le_refl 0) (by decide)) (hF (fun z => by
        cases z with
        | inl z => exact ha z
        | inr z => obtain ⟨k, ek, _⟩ := z; omega))
    | succ i =>
      refine br_f (nI_nle (by omega) (by omega)) ⟨by rw [ft_pry]; exact vp_in_nI (by omega) (by omega), ?_⟩
      refine ek_if (d := cp (8 * j + i) = a) (by rw [ft_pry, nI_clamp (by omega)]) (fun e => hT (Or.inr ⟨i, rfl, e⟩)) (fun e => hF (fun z => ?_))
      cases z with
      | inl z => exact ha z
      | inr z =>
        obtain ⟨k, ek, e2⟩ := z
        have hk : k = i := by omega
        subst hk
        exact e e2
end
end
section
section
variable {d s : Nat} {st cp ln wt : Nat → Int32} {L : Nat → Nat}
theorem ft_w {j : Nat} (hj : j < 40) (x : Int32) : x + wt (nI j).toNatClampNeg = x + wt j := by
  rw [nI_clamp (by omega)]
theorem ft_Xtotal (hd : d ≤ 8) (hs : s ≤ 40) (hL : ∀ j, ln j = nI (L j) ∧ L j ≤ 8) (post : Int32 → Prop)
    (hp : post (ft_Sum (ft_Ov d st cp L) wt s)) : wpX_total post (nI d, nI s, st, cp, ln, wt) := by
  refine loop_0 (fun n i x => wX_total_4 post (nI d) (nI s) st cp ln wt n x (nI i)) (fun i x => x = ft_Sum (ft_Ov d st cp L) wt i) s 0 rfl ?_ ?_
  · intro n x hx
    subst hx
    exact br_t (nI_le (Nat.le_refl s) (by omega)) hp
  · intro n i x hi hx hn
    subst hx
    refine br_f (nI_ge hi (by omega)) (ft_Xov hd hL (by omega) _ (fun h => ?_) (fun h => ?_))
    · exact br_f ft_z1 ⟨vp_in_nI (by omega) (by omega), nm_r (ft_w (by omega) _) (nm_r (nI_1 i) (hn _ (ft_sumT h).symm))⟩
    · exact br_t rfl (nm_r (nI_1 i) (hn _ (ft_sumF h).symm))
theorem ft_Ytotal (hd : d ≤ 8) (hs : s ≤ 40) (hL : ∀ j, ln j = nI (L j) ∧ L j ≤ 8) (post : Int32 → Prop)
    (hp : post (ft_Sum (ft_Ov d st cp L) wt s)) : wpY_total post (nI d, nI s, st, cp, ln, wt) := by
  refine loop_0 (fun n i x => wY_total_4 post (nI d) (nI s) st cp ln wt n x (nI i)) (fun i x => x = ft_Sum (ft_Ov d st cp L) wt i) s 0 rfl ?_ ?_
  · intro n x hx
    subst hx
    exact br_t (nI_le (Nat.le_refl s) (by omega)) hp
  · intro n i x hi hx hn
    subst hx
    refine br_f (nI_ge hi (by omega)) (ft_Yov hd hL (by omega) _ (fun h => ?_) (fun h => ?_))
    · exact br_f ft_z1 ⟨vp_in_nI (by omega) (by omega), nm_r (ft_w (by omega) _) (nm_r (nI_1 i) (hn _ (ft_sumT h).symm))⟩
    · exact br_t rfl (nm_r (nI_1 i) (hn _ (ft_sumF h).symm))
theorem ft_Xown (hd : d ≤ 8) (hs : s ≤ 40) (hL : ∀ j, ln j = nI (L j) ∧ L j ≤ 8) (post : Int32 → Prop)
    (hp : post (ft_Sum (fun j => L j = d ∧ ft_Ov d st cp L j) wt s)) : wpX_own post (nI d, nI s, st, cp, ln, wt) := by
  refine loop_0 (fun n i x => wX_own_4 post (nI d) (nI s) st cp ln wt n x (nI i)) (fun i x => x = ft_Sum (fun j => L j = d ∧ ft_Ov d st cp L j) wt i) s 0 rfl ?_ ?_
  · intro n x hx
    subst hx
    exact br_t (nI_le (Nat.le_refl s) (by omega)) hp
  · intro n i x hi hx hn
    subst hx
    have el := ft_len hL (j := i) (by omega)
    have hl := (hL i).2
    refine br_f (nI_ge hi (by omega)) ⟨vp_in_nI (by omega) (by omega), ?_⟩
    refine ek_if (d := L i = d) (by rw [el]; exact nI_eq (by omega) (by omega)) (fun g => ft_Xov hd hL (by omega) _ (fun h => ?_) (fun h => ?_)) (fun g => ?_)
    · exact br_f ft_z1 ⟨vp_in_nI (by omega) (by omega), nm_r (ft_w (by omega) _) (nm_r (nI_1 i) (hn _ (ft_sumT (c := fun j => L j = d ∧ ft_Ov d st cp L j) ⟨g, h⟩).symm))⟩
    · exact br_t rfl (nm_r (nI_1 i) (hn _ (ft_sumF (c := fun j => L j = d ∧ ft_Ov d st cp L j) (fun z => h z.2)).symm))
    · exact nm_r (nI_1 i) (hn _ (ft_sumF (c := fun j => L j = d ∧ ft_Ov d st cp L j) (fun z => g z.1)).symm)
theorem ft_Yown (hd : d ≤ 8) (hs : s ≤ 40) (hL : ∀ j, ln j = nI (L j) ∧ L j ≤ 8) (post : Int32 → Prop)
    (hp : post (ft_Sum (fun j => L j = d ∧ ft_Ov d st cp L j) wt s)) : wpY_own post (nI d, nI s, st, cp, ln, wt) := by
  refine loop_0 (fun n i x => wY_own_4 post (nI d) (nI s) st cp ln wt n x (nI i)) (fun i x => x = ft_Sum (fun j => L j = d ∧ ft_Ov d st cp L j) wt i) s 0 rfl ?_ ?_
  · intro n x hx
    subst hx
    exact br_t (nI_le (Nat.le_refl s) (by omega)) hp
  · intro n i x hi hx hn
    subst hx
    have el := ft_len hL (j := i) (by omega)
    have hl := (hL i).2
    refine br_f (nI_ge hi (by omega)) (ft_Yov hd hL (by omega) _ (fun h => ?_) (fun h => ?_))
    · refine br_f ft_z1 ⟨vp_in_nI (by omega) (by omega), ?_⟩
      refine ek_if (d := L i = d) (by rw [el]; exact nI_eq (by omega) (by omega)) (fun g => ?_) (fun g => ?_)
      · exact ⟨vp_in_nI (by omega) (by omega), nm_r (ft_w (by omega) _) (nm_r (nI_1 i) (hn _ (ft_sumT (c := fun j => L j = d ∧ ft_Ov d st cp L j) ⟨g, h⟩).symm))⟩
      · exact nm_r (nI_1 i) (hn _ (ft_sumF (c := fun j => L j = d ∧ ft_Ov d st cp L j) (fun z => g z.1)).symm)
    · exact br_t rfl (nm_r (nI_1 i) (hn _ (ft_sumF (c := fun j => L j = d ∧ ft_Ov d st cp L j) (fun z => h z.2)).symm))
def ft_Nx (d : Nat) (st cp : Nat → Int32) (L : Nat → Nat) (f : Int32) (j : Nat) : Prop := d < L j ∧ cp (8 * j + d) = f ∧ ft_Ov d st cp L j
theorem ft_Xnext (hd : d ≤ 8) (hs : s ≤ 40) (hL : ∀ j, ln j = nI (L j) ∧ L j ≤ 8) (f : Int32) (post : Int32 → Prop)
    (hp : post (ft_Sum (ft_Nx d st cp L f) wt s)) : wpX_totalWithNext post (nI d, nI s, st, cp, ln, wt) f := by
  refine loop_0 (fun n i x => wX_totalWithNext_4 post f (nI d) (nI s) st cp ln wt n x (nI i)) (fun i x => x = ft_Sum (ft_Nx d st cp L f) wt i) s 0 rfl ?_ ?_
  · intro n x hx
    subst hx
    exact br_t (nI_le (Nat.le_refl s) (by omega)) hp
  · intro n i x hi hx hn
    subst hx
    have el := ft_len hL (j := i) (by omega)
    have hl := (hL i).2
    refine br_f (nI_ge hi (by omega)) ⟨vp_in_nI (by omega) (by omega), ?_⟩
    refine ek_if (d := L i ≤ d) (by rw [el]; exact nI_leI (by omega) (by omega)) (fun g => ?_) (fun g => ⟨ft_inx i d (by omega), ?_⟩)
    · exact nm_r (nI_1 i) (hn _ (ft_sumF (fun z => absurd z.1 (by omega))).symm)
    refine ek_if (d := cp (8 * i + d) = f) (by rw [ft_clx i d (by omega)]) (fun e => ft_Xov hd hL (by omega) _ (fun h => ?_) (fun h => ?_)) (fun e => ?_)
    · exact br_f ft_z1 ⟨vp_in_nI (by omega) (by omega), nm_r (ft_w (by omega) _) (nm_r (nI_1 i) (hn _ (ft_sumT ⟨by omega, e, h⟩).symm))⟩
    · exact br_t rfl (nm_r (nI_1 i) (hn _ (ft_sumF (fun z => h z.2.2)).symm))
    · exact nm_r (nI_1 i) (hn _ (ft_sumF (fun z => e z.2.1)).symm)
theorem ft_Ynext (hd : d ≤ 8) (hs : s ≤ 40) (hL : ∀ j, ln j = nI (L j) ∧ L j ≤ 8) (f : Int32) (post : Int32 → Prop)
    (hp : post (ft_Sum (ft_Nx d st cp L f) wt s)) : wpY_totalWith post (nI d, nI s, st, cp, ln, wt) f := by
  refine loop_0 (fun n i x => wY_totalWith_4 post f (nI d) (nI s) st cp ln wt n x (nI i)) (fun i x => x = ft_Sum (ft_Nx d st cp L f) wt i) s 0 rfl ?_ ?_
  · intro n x hx
    subst hx
    exact br_t (nI_le (Nat.le_refl s) (by omega)) hp
  · intro n i x hi hx hn
    subst hx
    have el := ft_len hL (j := i) (by omega)
    have hl := (hL i).2
    refine br_f (nI_ge hi (by omega)) (ft_Yov hd hL (by omega) _ (fun h => ?_) (fun h => ?_))
    · refine br_f ft_z1 ⟨vp_in_nI (by omega) (by omega), ?_⟩
      refine ek_if (d := L i ≤ d) (by rw [el]; exact nI_leI (by omega) (by omega)) (fun g => ?_) (fun g => ⟨ft_iny i d (by omega), ?_⟩)
      · exact nm_r (nI_1 i) (hn _ (ft_sumF (fun z => absurd z.1 (by omega))).symm)
      refine ek_if (d := cp (8 * i + d) = f) (by rw [ft_cly i d (by omega)]) (fun e => ?_) (fun e => ?_)
      · exact ⟨vp_in_nI (by omega) (by omega), nm_r (ft_w (by omega) _) (nm_r (nI_1 i) (hn _ (ft_sumT ⟨by omega, e, h⟩).symm))⟩
      · exact nm_r (nI_1 i) (hn _ (ft_sumF (fun z => e z.2.1)).symm)
    · exact br_t rfl (nm_r (nI_1 i) (hn _ (ft_sumF (fun z => h z.2.2)).symm))
noncomputable def ft_Ht (T : Nat → Int32) : Nat → Int32 × Int32
  | 0 => (-1, 0)
  | f + 1 => if T f ≤ (ft_Ht T f).2 then ft_Ht T f else (nI f, T f)
theorem ft_htT {T : Nat → Int32} {f : Nat} (h : T f ≤ (ft_Ht T f).2) : ft_Ht T (f + 1) = ft_Ht T f := by
  rw [ft_Ht]; exact if_pos h
theorem ft_htF {T : Nat → Int32} {f : Nat} (h : ¬ T f ≤ (ft_Ht T f).2) : ft_Ht T (f + 1) = (nI f, T f) := by
  rw [ft_Ht]; exact if_neg h
theorem ft_ht0 {T : Nat → Int32} (h : ∀ f, T f = 0) : ∀ f, ft_Ht T f = (-1, 0) := by
  intro f
  induction f with
  | zero => rfl
  | succ f ih => rw [ft_htT (by rw [ih, h f]; exact Int32.le_refl 0), ih]
theorem ft_Xinc (hs : s ≤ 40) (hL : ∀ j, ln j = nI (L j) ∧ L j ≤ 8) (f : Int32) (post : Int32 → Prop)
    (hp : post (ft_Sum (ft_Has cp L f) wt s)) : ∃ n, wX_inclusive_13 post f (nI d) (nI s) st cp ln wt n 0 0 := by
  refine loop_0 (fun n i x => wX_inclusive_13 post f (nI d) (nI s) st cp ln wt n x (nI i)) (fun i x => x = ft_Sum (ft_Has cp L f) wt i) s 0 rfl ?_ ?_
  · intro n x hx
    subst hx
    exact br_t (nI_le (Nat.le_refl s) (by omega)) hp
  · intro n i x hi hx hn
    subst hx
    refine br_f (nI_ge hi (by omega)) (ft_Xhas hL (by omega) f _ (fun h => ?_) (fun h => ?_))
    · exact br_f ft_z1 ⟨vp_in_nI (by omega) (by omega), nm_r (ft_w (by omega) _) (nm_r (nI_1 i) (hn _ (ft_sumT h).symm))⟩
    · exact br_t rfl (nm_r (nI_1 i) (hn _ (ft_sumF h).symm))
theorem ft_Ystg (hs : s ≤ 40) (hL : ∀ j, ln j = nI (L j) ∧ L j ≤ 8) (a f : Int32) (post : Int32 → Prop)
    (hp : post (ft_Sum (ft_St cp L a f) wt s)) : wpY_standing post (nI d, nI s, st, cp, ln, wt) a f := by
  refine loop_0 (fun n i x => wY_standing_5 post a f (nI d) (nI s) st cp ln wt n x (nI i)) (fun i x => x = ft_Sum (ft_St cp L a f) wt i) s 0 rfl ?_ ?_
  · intro n x hx
    subst hx
    exact br_t (nI_le (Nat.le_refl s) (by omega)) hp
  · intro n i x hi hx hn
    subst hx
    refine br_f (nI_ge hi (by omega)) (ft_Yst hL (by omega) a f _ (fun h => ?_) (fun h => ?_))
    · exact br_f ft_z1 ⟨vp_in_nI (by omega) (by omega), nm_r (ft_w (by omega) _) (nm_r (nI_1 i) (hn _ (ft_sumT h).symm))⟩
    · exact br_t rfl (nm_r (nI_1 i) (hn _ (ft_sumF h).symm))
theorem ft_Xexc (hs : s ≤ 40) (hL : ∀ j, ln j = nI (L j) ∧ L j ≤ 8) (f : Int32) (post : Int32 → Prop)
    (hp : post (ft_Sum (ft_End cp L f) wt s)) : ∃ n, wX_exclusive_13 post f (nI d) (nI s) st cp ln wt n 0 0 := by
  refine loop_0 (fun n i x => wX_exclusive_13 post f (nI d) (nI s) st cp ln wt n x (nI i)) (fun i x => x = ft_Sum (ft_End cp L f) wt i) s 0 rfl ?_ ?_
  · intro n x hx
    subst hx
    exact br_t (nI_le (Nat.le_refl s) (by omega)) hp
  · intro n i x hi hx hn
    subst hx
    refine br_f (nI_ge hi (by omega)) (ft_Xend hL (by omega) f _ (fun h => ?_) (fun h => ?_))
    · exact br_f ft_z1 ⟨vp_in_nI (by omega) (by omega), nm_r (ft_w (by omega) _) (nm_r (nI_1 i) (hn _ (ft_sumT h).symm))⟩
    · exact br_t rfl (nm_r (nI_1 i) (hn _ (ft_sumF h).symm))
theorem ft_Yexc (hs : s ≤ 40) (hL : ∀ j, ln j = nI (L j) ∧ L j ≤ 8) (f : Int32) (post : Int32 → Prop)
    (hp : post (ft_Sum (ft_End cp L f) wt s)) : ∃ n, wY_exclusive_13 post f (nI d) (nI s) st cp ln wt n 0 0 := by
  refine loop_0 (fun n i x => wY_exclusive_13 post f (nI d) (nI s) st cp ln wt n x (nI i)) (fun i x => x = ft_Sum (ft_End cp L f) wt i) s 0 rfl ?_ ?_
  · intro n x hx
    subst hx
    exact br_t (nI_le (Nat.le_refl s) (by omega)) hp
  · intro n i x hi hx hn
    subst hx
    have el := ft_len hL (j := i) (by omega)
    have hl := (hL i).2
    refine br_f (nI_ge hi (by omega)) ⟨vp_in_nI (by omega) (by omega), ?_⟩
    rw [el]
    cases hz : L i with
    | zero =>
      exact br_t (nI_le (Nat.le_refl 0) (by decide)) (nm_r (nI_1 i) (hn _ (ft_sumF (fun ⟨k, e, _⟩ => by omega)).symm))
    | succ q =>
      refine br_f (nI_nle (by omega) (by omega)) ⟨vp_in_nI (by omega) (by omega), ?_⟩
      rw [ft_pry]
      refine ⟨vp_in_nI (by omega) (by omega), ?_⟩
      refine ek_if (d := cp (8 * i + q) = f) (by rw [nI_clamp (by omega)]) (fun e => ?_) (fun e => ?_)
      · exact ⟨vp_in_nI (by omega) (by omega), nm_r (ft_w (by omega) _) (nm_r (nI_1 i) (hn _ (ft_sumT ⟨q, hz, e⟩).symm))⟩
      · refine nm_r (nI_1 i) (hn _ (ft_sumF (fun z => ?_)).symm)
        obtain ⟨k, ek, e2⟩ := z
        have hk : k = q := by omega
        subst hk
        exact e e2
theorem ft_Xedge (hs : s ≤ 40) (hL : ∀ j, ln j = nI (L j) ∧ L j ≤ 8) (a f : Int32) (post : Int32 → Prop)
    (hp : post (ft_Sum (ft_Edg cp L a f) wt s)) : ∃ n, wX_edge_21 post a f (nI d) (nI s) st cp ln wt n 0 0 := by
  refine loop_0 (fun n i x => wX_edge_21 post a f (nI d) (nI s) st cp ln wt n x (nI i)) (fun i x => x = ft_Sum (ft_Edg cp L a f) wt i) s 0 rfl ?_ ?_
  · intro n x hx
    subst hx
    exact br_t (nI_le (Nat.le_refl s) (by omega)) hp
  · intro n i x hi hx hn
    subst hx
    refine br_f (nI_ge hi (by omega)) (ft_Xedg hL (by omega) a f _ (fun h => ?_) (fun h => ?_))
    · exact br_f ft_z1 ⟨vp_in_nI (by omega) (by omega), nm_r (ft_w (by omega) _) (nm_r (nI_1 i) (hn _ (ft_sumT h).symm))⟩
    · exact br_t rfl (nm_r (nI_1 i) (hn _ (ft_sumF h).symm))
end
end
section
section
variable {d s : Nat} {st cp ln wt : Nat → Int32} {L : Nat → Nat}
theorem ft_Xhot (hd : d ≤ 8) (hs : s ≤ 40) (hL : ∀ j, ln j = nI (L j) ∧ L j ≤ 8) (T : Nat → Int32) (hT : ∀ f, ft_Sum (ft_Nx d st cp L (nI f)) wt s = T f)
    (H : Nat → Int32 × Int32) (H0 : H 0 = (-1, 0)) (HT : ∀ f, T f ≤ (H f).2 → H (f + 1) = H f) (HF : ∀ f, ¬ T f ≤ (H f).2 → H (f + 1) = (nI f, T f))
    (post : Int32 → Prop) (hp : post (H 8).1) : wpX_hottest post (nI d, nI s, st, cp, ln, wt) := by
  refine loop_0 (fun n i (x : Int32 × Int32) => wX_hottest_6 post (nI d) (nI s) st cp ln wt n x.1 x.2 (nI i)) (fun i x => x = H i) 8 (-1, 0) H0.symm ?_ ?_
  · intro n x hx
    subst hx
    exact br_t (nI_le (Nat.le_refl 8) (by decide)) hp
  · intro n i x hi hx hn
    subst hx
    refine br_f (nI_ge (b := 8) hi (by decide)) (ft_Xnext hd hs hL (nI i) _ ?_)
    rw [hT i]
    exact br_c (fun h => nm_r (nI_1 i) (hn _ (HT i h).symm)) (fun h => nm_r (nI_1 i) (hn (nI i, T i) (HF i h).symm))
theorem ft_Yhot (hd : d ≤ 8) (hs : s ≤ 40) (hL : ∀ j, ln j = nI (L j) ∧ L j ≤ 8) (T : Nat → Int32) (hT : ∀ f, ft_Sum (ft_Nx d st cp L (nI f)) wt s = T f)
    (H : Nat → Int32 × Int32) (H0 : H 0 = (-1, 0)) (HT : ∀ f, T f ≤ (H f).2 → H (f + 1) = H f) (HF : ∀ f, ¬ T f ≤ (H f).2 → H (f + 1) = (nI f, T f))
    (post : Int32 → Prop) (hp : post (H 8).1) (h8 : d < 8) : wpY_hottest post (nI d, nI s, st, cp, ln, wt) := by
  refine loop_0 (fun n i (x : Int32 × Int32) => wY_hottest_6 post (nI d) (nI s) st cp ln wt n x.1 x.2 (nI i)) (fun i x => x = H i) 8 (-1, 0) H0.symm ?_ ?_
  · intro n x hx
    subst hx
    exact br_t (nI_le (Nat.le_refl 8) (by decide)) hp
  · intro n i x hi hx hn
    subst hx
    refine br_f (nI_ge (b := 8) hi (by decide)) (br_f (nI_ge (b := 8) h8 (by decide)) (ft_Ynext hd hs hL (nI i) _ ?_))
    rw [hT i]
    exact br_c (fun h => nm_r (nI_1 i) (hn _ (HT i h).symm)) (fun h => nm_r (nI_1 i) (hn (nI i, T i) (HF i h).symm))
theorem ft_Yhot8 (hd : d = 8) (post : Int32 → Prop) (hp : post (-1)) : wpY_hottest post (nI d, nI s, st, cp, ln, wt) := by
  subst hd
  exact ⟨1, br_f (nI_ge (a := 0) (b := 8) (by decide) (by decide)) (br_t (nI_le (Nat.le_refl 8) (by decide)) hp)⟩
theorem ft_hot (hd : d ≤ 8) (hs : s ≤ 40) (hL : ∀ j, ln j = nI (L j) ∧ L j ≤ 8) :
    ∃ r : Int32, (∀ post : Int32 → Prop, post r → wpX_hottest post (nI d, nI s, st, cp, ln, wt)) ∧ (∀ post : Int32 → Prop, post r → wpY_hottest post (nI d, nI s, st, cp, ln, wt)) := by
  obtain ⟨T, hT⟩ : ∃ T : Nat → Int32, ∀ f, ft_Sum (ft_Nx d st cp L (nI f)) wt s = T f := ⟨_, fun _ => rfl⟩
  obtain ⟨H, H0, HT, HF⟩ : ∃ H : Nat → Int32 × Int32, H 0 = (-1, 0) ∧ (∀ f, T f ≤ (H f).2 → H (f + 1) = H f) ∧ (∀ f, ¬ T f ≤ (H f).2 → H (f + 1) = (nI f, T f)) :=
    ⟨ft_Ht T, rfl, fun _ h => ft_htT h, fun _ h => ft_htF h⟩
  refine ⟨(H 8).1, fun post hp => ft_Xhot hd hs hL T hT H H0 HT HF post hp, fun post hp => ?_⟩
  by_cases h8 : d < 8
  · exact ft_Yhot hd hs hL T hT H H0 HT HF post hp h8
  · have h0 : ∀ f, T f = 0 := fun f => by
      rw [← hT f]
      exact ft_sum0 s (fun j hj z => absurd z.1 (by have := (hL j).2; omega))
    have e : ∀ f, H f = (-1, 0) := by
      intro f
      induction f with
      | zero => exact H0
      | succ f ih => rw [HT f (by rw [ih, h0 f]; exact Int32.le_refl 0), ih]
    rw [e 8] at hp
    exact ft_Yhot8 (by omega) post hp
end
end
section
section
variable {d s : Nat} {st cp ln wt : Nat → Int32} {L : Nat → Nat}
theorem ft_Xfst (hL : ∀ j, ln j = nI (L j) ∧ L j ≤ 8) {j k : Nat} (hj : j < 40) (hk : k ≤ 8) (post : Int32 → Prop)
    (h1 : ft_Fst cp L k j → post 1) (h0 : ¬ ft_Fst cp L k j → post 0) :
    wpX_isFirstWithBeginning post (nI d, nI s, st, cp, ln, wt) (nI j) (nI k) := by
  refine loop_0 (fun n i (_ : Unit) => wX_isFirstWithBeginning_2 post (nI j) (nI k) (nI d) (nI s) st cp ln wt n (nI i)) (fun i _ => ∀ t, t < i → ¬ ft_Sh cp L k t j) j () (fun q hq => absurd hq (Nat.not_lt_zero q)) ?_ ?_
  · intro n _ hI
    exact br_t (nI_le (Nat.le_refl j) (by omega)) (h1 hI)
  · intro n i _ hi hI hn
    refine br_f (nI_ge hi (by omega)) (ft_Xsh hL (by omega) hj hk _ (fun h => ?_) (fun h => ?_))
    · exact br_f ft_z1 (h0 (fun z => z i hi h))
    · exact br_t rfl (nm_r (nI_1 i) (hn () (lt_s hI h)))
theorem ft_Xtot (hs : s ≤ 40) (hL : ∀ j, ln j = nI (L j) ∧ L j ≤ 8) {j k : Nat} (hj : j < 40) (hk : k ≤ 8) (post : Int32 → Prop)
    (hp : post (ft_Sum (fun t => ft_Sh cp L k t j) wt s)) :
    wpX_totalOfBeginning post (nI d, nI s, st, cp, ln, wt) (nI j) (nI k) := by
  refine loop_0 (fun n i x => wX_totalOfBeginning_5 post (nI j) (nI k) (nI d) (nI s) st cp ln wt n x (nI i)) (fun i x => x = ft_Sum (fun t => ft_Sh cp L k t j) wt i) s 0 rfl ?_ ?_
  · intro n x hx
    subst hx
    exact br_t (nI_le (Nat.le_refl s) (by omega)) hp
  · intro n i x hi hx hn
    subst hx
    refine br_f (nI_ge hi (by omega)) (ft_Xsh hL (by omega) hj hk _ (fun h => ?_) (fun h => ?_))
    · exact br_f ft_z1 ⟨vp_in_nI (by omega) (by omega), nm_r (ft_w (by omega) _) (nm_r (nI_1 i) (hn _ (ft_sumT (c := fun t => ft_Sh cp L k t j) h).symm))⟩
    · exact br_t rfl (nm_r (nI_1 i) (hn _ (ft_sumF (c := fun t => ft_Sh cp L k t j) h).symm))
theorem ft_Ynew (hs : s ≤ 40) (hL : ∀ j, ln j = nI (L j) ∧ L j ≤ 8) {j k : Nat} (hj : j < s) (hk : k ≤ 8) (post : Int32 → Prop)
    (h1 : ft_Fst cp L k j → post (ft_Sum (fun t => ft_Sh cp L k t j) wt s)) (h0 : ¬ ft_Fst cp L k j → post 0) :
    wpY_newTotal post (nI d, nI s, st, cp, ln, wt) (nI j) (nI k) := by
  refine loop_0 (fun n i x => wY_newTotal_5 post (nI j) (nI k) (nI d) (nI s) st cp ln wt n x (nI i)) (fun i x => x = ft_Sum (fun t => ft_Sh cp L k t j) wt i ∧ ∀ t, t < i → t < j → ¬ ft_Sh cp L k t j) s 0 ⟨rfl, fun q hq => absurd hq (Nat.not_lt_zero q)⟩ ?_ ?_
  · intro n x hI
    obtain ⟨hx, hI⟩ := hI
    subst hx
    exact br_t (nI_le (Nat.le_refl s) (by omega)) (h1 (fun t ht => hI t (by omega) ht))
  · intro n i x hi hI hn
    obtain ⟨hx, hI⟩ := hI
    subst hx
    refine br_f (nI_ge hi (by omega)) (ft_Ysh hL (by omega) (by omega) hk _ (fun h => ?_) (fun h => ?_))
    · refine br_f ft_z1 (ek_if (d := j ≤ i) (nI_leI (by omega) (by omega)) (fun g => ?_) (fun g => ?_))
      · exact ⟨vp_in_nI (by omega) (by omega), nm_r (ft_w (by omega) _) (nm_r (nI_1 i) (hn _ ⟨(ft_sumT (c := fun t => ft_Sh cp L k t j) (ft_shS h)).symm, lt_s hI (fun z => absurd z (by omega))⟩))⟩
      · exact h0 (fun z => z i (by omega) (ft_shS h))
    · exact br_t rfl (nm_r (nI_1 i) (hn _ ⟨(ft_sumF (c := fun t => ft_Sh cp L k t j) (fun z => h (ft_shS z))).symm, lt_s hI (fun _ z => h (ft_shS z))⟩))
end
noncomputable def ft_Cn (p : Nat → Prop) (c : Int32) : Nat → Int32
  | 0 => c
  | k + 1 => @ite _ (p (k + 1)) (Classical.propDecidable _) (ft_Cn p c k + 1) (ft_Cn p c k)
theorem ft_cnT {p : Nat → Prop} {c : Int32} {k : Nat} (h : p (k + 1)) : ft_Cn p c (k + 1) = ft_Cn p c k + 1 := by
  rw [ft_Cn]; exact if_pos h
theorem ft_cnF {p : Nat → Prop} {c : Int32} {k : Nat} (h : ¬ p (k + 1)) : ft_Cn p c (k + 1) = ft_Cn p c k := by
  rw [ft_Cn]; exact if_neg h
noncomputable def ft_Pth (p : Nat → Nat → Prop) (L : Nat → Nat) : Nat → Int32
  | 0 => 0
  | j + 1 => ft_Cn (p j) (ft_Pth p L j) (L j)
def ft_Hit (cp : Nat → Int32) (L : Nat → Nat) (wt : Nat → Int32) (s : Nat) (least : Int32) (j k : Nat) : Prop := ¬ ft_Sum (fun t => ft_Sh cp L k t j) wt s < least
def ft_New (cp : Nat → Int32) (L : Nat → Nat) (wt : Nat → Int32) (s : Nat) (least : Int32) (j k : Nat) : Prop := ft_Fst cp L k j ∧ ft_Hit cp L wt s least j k
section
variable {d s : Nat} {st cp ln wt : Nat → Int32} {L : Nat → Nat}
theorem ft_Xpi (hs : s ≤ 40) (hL : ∀ j, ln j = nI (L j) ∧ L j ≤ 8) {j : Nat} (hj : j < 40) (least c : Int32) (post : Int32 → Prop) (J : Int32 → Int32 → Prop)
    (hp : J (ft_Cn (ft_New cp L wt s least j) c (L j)) (nI (j + 1))) :
    ∃ n, wX_paths_22 post J least (nI j) (nI d) (nI s) st cp ln wt n c 1 := by
  have el := ft_len hL hj
  have hl := (hL j).2
  refine loop_0 (fun n i x => wX_paths_22 post J least (nI j) (nI d) (nI s) st cp ln wt n x (nI (i + 1))) (fun i x => x = ft_Cn (ft_New cp L wt s least j) c i) (L j) c rfl ?_ ?_
  · intro n x hx
    subst hx
    exact ⟨vp_in_nI hj (by omega), br_t (by rw [el]; exact nI_lt (by omega) (by omega)) (nm_r (nI_1 j) hp)⟩
  · intro n i x hi hx hn
    subst hx
    refine ⟨vp_in_nI hj (by omega), br_f (by rw [el]; exact nI_nlt (by omega) (by omega)) (ft_Xfst hL hj (by omega) _ (fun h => ?_) (fun h => ?_))⟩
    · refine br_f ft_z1 (ft_Xtot hs hL hj (by omega) _ ?_)
      refine br_c (fun g => ?_) (fun g => ?_)
      · exact nm_r (nI_1 (i + 1)) (hn _ (ft_cnF (fun z => z.2 g)).symm)
      · exact nm_e (nm_r (nI_1 (i + 1)) (hn _ (ft_cnT ⟨h, g⟩).symm))
    · exact br_t rfl (nm_r (nI_1 (i + 1)) (hn _ (ft_cnF (fun z => h z.1)).symm))
theorem ft_Ypi (hs : s ≤ 40) (hL : ∀ j, ln j = nI (L j) ∧ L j ≤ 8) {j : Nat} (hj : j < s) (least c : Int32) (hl1 : 0 < least) (post : Int32 → Prop) (J : Int32 → Int32 → Prop)
    (hp : J (ft_Cn (ft_New cp L wt s least j) c (L j)) (nI (j + 1))) :
    ∃ n, wY_paths_28 post J least (nI j) (nI d) (nI s) st cp ln wt n c 1 := by
  have el := ft_len hL (j := j) (by omega)
  have hl := (hL j).2
  refine loop_0 (fun n i x => wY_paths_28 post J least (nI j) (nI d) (nI s) st cp ln wt n x (nI (i + 1))) (fun i x => x = ft_Cn (ft_New cp L wt s least j) c i) (L j) c rfl ?_ ?_
  · intro n x hx
    subst hx
    exact ⟨vp_in_nI (by omega) (by omega), br_t (by rw [el]; exact nI_lt (by omega) (by omega)) (nm_r (nI_1 j) hp)⟩
  · intro n i x hi hx hn
    subst hx
    refine ⟨vp_in_nI (by omega) (by omega), br_f (by rw [el]; exact nI_nlt (by omega) (by omega)) (ft_Ynew hs hL hj (by omega) _ (fun h => ?_) (fun h => ?_))⟩
    · refine br_c (fun g => ?_) (fun g => ?_)
      · exact nm_r (nI_1 (i + 1)) (hn _ (ft_cnF (fun z => z.2 g)).symm)
      · exact nm_e (nm_r (nI_1 (i + 1)) (hn _ (ft_cnT ⟨h, g⟩).symm))
    · exact br_t hl1 (nm_r (nI_1 (i + 1)) (hn _ (ft_cnF (fun z => h z.1)).symm))
theorem ft_Xpo (hs : s ≤ 40) (hL : ∀ j, ln j = nI (L j) ∧ L j ≤ 8) (least : Int32) (post : Int32 → Prop)
    (hp : post (ft_Pth (ft_New cp L wt s least) L s)) : ∃ n, wX_paths_10 post least (nI d) (nI s) st cp ln wt n 0 0 := by
  refine loop_0 (fun n i x => wX_paths_10 post least (nI d) (nI s) st cp ln wt n x (nI i)) (fun i x => x = ft_Pth (ft_New cp L wt s least) L i) s 0 rfl ?_ ?_
  · intro n x hx
    subst hx
    exact br_t (nI_le (Nat.le_refl s) (by omega)) hp
  · intro n i x hi hx hn
    subst hx
    exact br_f (nI_ge hi (by omega)) (ft_Xpi hs hL (by omega) least _ post _ (hn _ rfl))
theorem ft_Ypo (hs : s ≤ 40) (hL : ∀ j, ln j = nI (L j) ∧ L j ≤ 8) (least : Int32) (hl1 : 0 < least) (post : Int32 → Prop)
    (hp : post (ft_Pth (ft_New cp L wt s least) L s)) : ∃ n, wY_paths_16 post least (nI d) (nI s) st cp ln wt n 0 0 := by
  refine loop_0 (fun n i x => wY_paths_16 post least (nI d) (nI s) st cp ln wt n x (nI i)) (fun i x => x = ft_Pth (ft_New cp L wt s least) L i) s 0 rfl ?_ ?_
  · intro n x hx
    subst hx
    exact br_t (nI_le (Nat.le_refl s) (by omega)) hp
  · intro n i x hi hx hn
    subst hx
    exact br_f (nI_ge hi (by omega)) (ft_Ypi hs hL hi least _ hl1 post _ (hn _ rfl))
end
end
section
noncomputable def ft_Tp (h : Nat → Prop) (m : Nat) : Nat → Nat
  | 0 => m
  | k + 1 => @ite _ (m < k + 1 ∧ h (k + 1)) (Classical.propDecidable _) (k + 1) (ft_Tp h m k)
theorem ft_tpT {h : Nat → Prop} {m k : Nat} (z : m < k + 1 ∧ h (k + 1)) : ft_Tp h m (k + 1) = k + 1 := by
  rw [ft_Tp]; exact if_pos z
theorem ft_tpF {h : Nat → Prop} {m k : Nat} (z : ¬ (m < k + 1 ∧ h (k + 1))) : ft_Tp h m (k + 1) = ft_Tp h m k := by
  rw [ft_Tp]; exact if_neg z
theorem ft_tpL {h : Nat → Prop} {m : Nat} : ∀ k, k ≤ m → ft_Tp h m k = m := by
  intro k
  induction k with
  | zero => intro _; rfl
  | succ k ih => intro hk; rw [ft_tpF (fun z => absurd z.1 (by omega)), ih (by omega)]
theorem ft_tpG {h : Nat → Prop} {m : Nat} : ∀ k, m ≤ ft_Tp h m k ∧ (ft_Tp h m k ≤ m ∨ ft_Tp h m k ≤ k) := by
  intro k
  induction k with
  | zero => exact ⟨Nat.le_refl m, Or.inl (Nat.le_refl m)⟩
  | succ k ih =>
    by_cases z : m < k + 1 ∧ h (k + 1)
    · rw [ft_tpT z]; exact ⟨by omega, Or.inr (Nat.le_refl _)⟩
    · rw [ft_tpF z]; omega
theorem ft_tpU {h : Nat → Prop} {m : Nat} : ∀ k q, 1 ≤ q → q ≤ k → h q → q ≤ ft_Tp h m k := by
  intro k
  induction k with
  | zero => intro q h1 h2 _; omega
  | succ k ih =>
    intro q h1 h2 hq
    by_cases z : m < k + 1 ∧ h (k + 1)
    · rw [ft_tpT z]; exact h2
    · rw [ft_tpF z]
      by_cases e : q = k + 1
      · subst e
        have := (ft_tpG (h := h) (m := m) k).1
        have hm : ¬ m < k + 1 := fun y => z ⟨y, hq⟩
        omega
      · exact ih q h1 (by omega) hq
noncomputable def ft_Dp (h : Nat → Nat → Prop) (L : Nat → Nat) : Nat → Nat
  | 0 => 0
  | j + 1 => ft_Tp (h j) (ft_Dp h L j) (L j)
theorem ft_dpB {h : Nat → Nat → Prop} {L : Nat → Nat} (hL : ∀ j, L j ≤ 8) : ∀ j, ft_Dp h L j ≤ 8 := by
  intro j
  induction j with
  | zero => exact Nat.zero_le 8
  | succ j ih =>
    have g := (ft_tpG (h := h j) (m := ft_Dp h L j) (L j)).2
    have l := hL j
    rw [ft_Dp]
    omega
theorem ft_dpU {h : Nat → Nat → Prop} {L : Nat → Nat} : ∀ j t, t < j → ∀ q, 1 ≤ q → q ≤ L t → h t q → q ≤ ft_Dp h L j := by
  intro j
  induction j with
  | zero => intro t ht; omega
  | succ j ih =>
    intro t ht q h1 h2 hq
    rw [ft_Dp]
    by_cases e : t = j
    · subst e
      exact ft_tpU (L t) q h1 h2 hq
    · have a := ih t (by omega) q h1 h2 hq
      have g := (ft_tpG (h := h j) (m := ft_Dp h L j) (L j)).1
      omega
theorem ft_hitC {cp : Nat → Int32} {L : Nat → Nat} {wt : Nat → Int32} {s : Nat} {least : Int32} {t j k : Nat} (h : ft_Sh cp L k t j) (z : ft_Hit cp L wt s least j k) : ft_Hit cp L wt s least t k := by
  have e : ft_Sum (fun q => ft_Sh cp L k q t) wt s = ft_Sum (fun q => ft_Sh cp L k q j) wt s :=
    ft_sumC s (fun q _ => ⟨fun y => ft_shT y h, fun y => ft_shT y (ft_shS h)⟩)
  rw [ft_Hit, e]
  exact z
section
variable {d s : Nat} {st cp ln wt : Nat → Int32} {L : Nat → Nat}
theorem ft_Xdi (hs : s ≤ 40) (hL : ∀ j, ln j = nI (L j) ∧ L j ≤ 8) {j : Nat} (hj : j < 40) (least : Int32) {m : Nat} (hm : m ≤ 8) (post : Int32 → Prop) (J : Int32 → Int32 → Prop)
    (hp : J (nI (ft_Tp (ft_Hit cp L wt s least j) m (L j))) (nI (j + 1))) :
    ∃ n, wX_deepest_24 post J least (nI j) (nI d) (nI s) st cp ln wt n (nI m) (nI (m + 1)) := by
  have el := ft_len hL hj
  have hl := (hL j).2
  by_cases hz : L j < m
  · rw [ft_tpL (L j) (by omega)] at hp
    exact ⟨1, vp_in_nI hj (by omega), br_t (by rw [el]; exact nI_lt (by omega) (by omega)) (nm_r (nI_1 j) hp)⟩
  refine pk_loop (fun n i x => wX_deepest_24 post J least (nI j) (nI d) (nI s) st cp ln wt n x (nI (i + 1))) (fun i x => m ≤ i ∧ x = nI (ft_Tp (ft_Hit cp L wt s least j) m i)) (L j) m (nI m) (by omega) ⟨Nat.le_refl m, by rw [ft_tpL m (Nat.le_refl m)]⟩ ?_ ?_
  · intro n x hx
    obtain ⟨_, hx⟩ := hx
    subst hx
    exact ⟨vp_in_nI hj (by omega), br_t (by rw [el]; exact nI_lt (by omega) (by omega)) (nm_r (nI_1 j) hp)⟩
  · intro n i x hi hx hn
    obtain ⟨hmi, hx⟩ := hx
    subst hx
    refine ⟨vp_in_nI hj (by omega), br_f (by rw [el]; exact nI_nlt (by omega) (by omega)) (ft_Xtot hs hL hj (by omega) _ ?_)⟩
    refine br_c (fun g => ?_) (fun g => ?_)
    · exact nm_r (nI_1 (i + 1)) (hn _ ⟨by omega, by rw [ft_tpF (h := ft_Hit cp L wt s least j) (m := m) (k := i) (fun z => z.2 g)]⟩)
    · exact nm_r (nI_1 (i + 1)) (hn _ ⟨by omega, by rw [ft_tpT (h := ft_Hit cp L wt s least j) (m := m) (k := i) ⟨by omega, g⟩]⟩)
theorem ft_Ydi (hs : s ≤ 40) (hL : ∀ j, ln j = nI (L j) ∧ L j ≤ 8) {j : Nat} (hj : j < s) (least : Int32) (hl1 : 0 < least) {m : Nat} (hm : m ≤ 8)
    (hU : ∀ t, t < j → ∀ q, 1 ≤ q → q ≤ L t → ft_Hit cp L wt s least t q → q ≤ m) (post : Int32 → Prop) (J : Int32 → Int32 → Prop)
    (hp : J (nI (ft_Tp (ft_Hit cp L wt s least j) m (L j))) (nI (j + 1))) :
    ∃ n, wY_deepest_28 post J least (nI j) (nI d) (nI s) st cp ln wt n (nI m) 1 := by
  have el := ft_len hL (j := j) (by omega)
  have hl := (hL j).2
  refine loop_0 (fun n i x => wY_deepest_28 post J least (nI j) (nI d) (nI s) st cp ln wt n x (nI (i + 1))) (fun i x => x = nI (ft_Tp (ft_Hit cp L wt s least j) m i)) (L j) (nI m) rfl ?_ ?_
  · intro n x hx
    subst hx
    exact ⟨vp_in_nI (by omega) (by omega), br_t (by rw [el]; exact nI_lt (by omega) (by omega)) (nm_r (nI_1 j) hp)⟩
  · intro n i x hi hx hn
    subst hx
    have gt := ft_tpG (h := ft_Hit cp L wt s least j) (m := m) i
    refine ⟨vp_in_nI (by omega) (by omega), br_f (by rw [el]; exact nI_nlt (by omega) (by omega)) (ft_Ynew hs hL hj (by omega) _ (fun h => ?_) (fun h => ?_))⟩
    · refine br_c (fun g => ?_) (fun g => ?_)
      · exact nm_r (nI_1 (i + 1)) (hn _ (by rw [ft_tpF (h := ft_Hit cp L wt s least j) (m := m) (k := i) (fun z => z.2 g)]))
      · refine ek_if (d := i + 1 ≤ ft_Tp (ft_Hit cp L wt s least j) m i) (nI_leI (by omega) (by omega)) (fun y => ?_) (fun y => ?_)
        · exact nm_r (nI_1 (i + 1)) (hn _ (by rw [ft_tpF (h := ft_Hit cp L wt s least j) (m := m) (k := i) (fun z => absurd z.1 (by omega))]))
        · exact nm_r (nI_1 (i + 1)) (hn _ (by rw [ft_tpT (h := ft_Hit cp L wt s least j) (m := m) (k := i) ⟨by omega, g⟩]))
    · refine br_t hl1 (nm_r (nI_1 (i + 1)) (hn _ ?_))
      rw [ft_tpF (h := ft_Hit cp L wt s least j) (m := m) (k := i) (fun z => ?_)]
      refine h (fun t ht hsh => ?_)
      have a := hU t ht (i + 1) (by omega) hsh.1 (ft_hitC hsh z.2)
      have b := z.1
      omega
theorem ft_Xdo (hs : s ≤ 40) (hL : ∀ j, ln j = nI (L j) ∧ L j ≤ 8) (least : Int32) (post : Int32 → Prop)
    (hp : post (nI (ft_Dp (ft_Hit cp L wt s least) L s))) : ∃ n, wX_deepest_10 post least (nI d) (nI s) st cp ln wt n 0 0 := by
  refine loop_0 (fun n i x => wX_deepest_10 post least (nI d) (nI s) st cp ln wt n x (nI i)) (fun i x => x = nI (ft_Dp (ft_Hit cp L wt s least) L i)) s 0 rfl ?_ ?_
  · intro n x hx
    subst hx
    exact br_t (nI_le (Nat.le_refl s) (by omega)) hp
  · intro n i x hi hx hn
    subst hx
    exact br_f (nI_ge hi (by omega)) (nm_r (nI_1 _) (ft_Xdi hs hL (by omega) least (ft_dpB (fun j => (hL j).2) i) post _ (hn _ rfl)))
theorem ft_Ydo (hs : s ≤ 40) (hL : ∀ j, ln j = nI (L j) ∧ L j ≤ 8) (least : Int32) (hl1 : 0 < least) (post : Int32 → Prop)
    (hp : post (nI (ft_Dp (ft_Hit cp L wt s least) L s))) : ∃ n, wY_deepest_16 post least (nI d) (nI s) st cp ln wt n 0 0 := by
  refine loop_0 (fun n i x => wY_deepest_16 post least (nI d) (nI s) st cp ln wt n x (nI i)) (fun i x => x = nI (ft_Dp (ft_Hit cp L wt s least) L i)) s 0 rfl ?_ ?_
  · intro n x hx
    subst hx
    exact br_t (nI_le (Nat.le_refl s) (by omega)) hp
  · intro n i x hi hx hn
    subst hx
    exact br_f (nI_ge hi (by omega)) (ft_Ydi hs hL hi least hl1 (ft_dpB (fun j => (hL j).2) i) (ft_dpU i) post _ (hn _ rfl))
end
end
section
def ft_F (x : Int32) : Prop := ¬ x < 0 ∧ ¬ 8 ≤ x
theorem ft_le7 (x : Int32) : x ≤ 7 ↔ ¬ 8 ≤ x := by
  rw [Int32.le_iff_toInt_le, Int32.le_iff_toInt_le]
  have e7 : (7 : Int32).toInt = 7 := by decide
  have e8 : (8 : Int32).toInt = 8 := by decide
  rw [e7, e8]
  omega
theorem ft_pos {x : Int32} (h : 1 ≤ x) : 0 < x := by
  rw [Int32.le_iff_toInt_le] at h
  rw [Int32.lt_iff_toInt_lt]
  have e1 : (1 : Int32).toInt = 1 := by decide
  have e0 : (0 : Int32).toInt = 0 := by decide
  rw [e1] at h
  rw [e0]
  omega
theorem ft_Xf (x : Int32) (post : Int32 → Prop) (h1 : ft_F x → post 1) (h0 : ¬ ft_F x → post 0) : wpX_isFunction post x :=
  br_c (fun a => h0 (fun z => z.1 a)) (fun a => br_c (fun b => h0 (fun z => z.2 b)) (fun b => h1 ⟨a, b⟩))
theorem ft_Yf (x : Int32) (post : Int32 → Prop) (h1 : ft_F x → post 0) (h0 : ¬ ft_F x → post 1) : wpY_bad post x :=
  br_c (fun a => h0 (fun z => z.1 a)) (fun a => ek_if (ft_le7 x) (fun b => h1 ⟨a, b⟩) (fun b => h0 (fun z => b z.2)))
def ft_Cpy (st cp : Nat → Int32) (b : Nat) : Nat → Nat → Int32
  | 0 => cp
  | i + 1 => upd (ft_Cpy st cp b i) (b + i) (st i)
section
variable {d s : Nat} {st cp ln wt : Nat → Int32} {L : Nat → Nat}
theorem ft_Xcpy (hd : d ≤ 8) (hs : s < 40) (w : Int32) (post : Int32 → SX → Prop)
    (hp : post (nI (s + 1)) (nI d, nI (s + 1), st, ft_Cpy st cp (8 * s) d, upd ln s (nI d), upd wt s w)) :
    ∃ n, wX_sample_32 post w (nI (8 * s)) (nI d) (nI s) n 0 st cp ln wt := by
  have es : (nI s).toNatClampNeg = s := nI_clamp (by omega)
  refine loop_0 (fun n i c => wX_sample_32 post w (nI (8 * s)) (nI d) (nI s) n (nI i) st c ln wt) (fun i c => c = ft_Cpy st cp (8 * s) i) d cp rfl ?_ ?_
  · intro n c hc
    subst hc
    refine br_t (nI_le (Nat.le_refl d) (by omega)) ⟨vp_in_nI hs (by omega), nm_r (e' := upd ln s (nI d)) (by rw [es]) ⟨vp_in_nI hs (by omega), nm_r (e' := upd wt s w) (by rw [es]) (nm_r (nI_1 s) hp)⟩⟩
  · intro n i c hi hc hn
    subst hc
    refine br_f (nI_ge hi (by omega)) ⟨vp_in_nI (by omega) (by omega), ft_in s i (by omega), ?_⟩
    exact nm_r (e' := ft_Cpy st cp (8 * s) (i + 1)) (by rw [ft_cl s i (by omega), nI_clamp (by omega)]; rfl) (nm_r (nI_1 i) (hn _ rfl))
theorem ft_Ycpy (hd : d ≤ 8) (hs : s < 40) (w : Int32) (post : Int32 → SY → Prop)
    (hp : post (nI (s + 1)) (nI d, nI (s + 1), st, ft_Cpy st cp (8 * s) d, upd ln s (nI d), upd wt s w)) :
    ∃ n, wY_sample_24 post w (nI d) (nI s) n 0 st cp ln wt := by
  have es : (nI s).toNatClampNeg = s := nI_clamp (by omega)
  refine loop_0 (fun n i c => wY_sample_24 post w (nI d) (nI s) n (nI i) st c ln wt) (fun i c => c = ft_Cpy st cp (8 * s) i) d cp rfl ?_ ?_
  · intro n c hc
    subst hc
    refine br_t (nI_le (Nat.le_refl d) (by omega)) ⟨vp_in_nI hs (by omega), nm_r (e' := upd ln s (nI d)) (by rw [es]) ⟨vp_in_nI hs (by omega), nm_r (e' := upd wt s w) (by rw [es]) (nm_r (nI_1 s) hp)⟩⟩
  · intro n i c hi hc hn
    subst hc
    refine br_f (nI_ge hi (by omega)) ⟨vp_in_nI (by omega) (by omega), ft_iny s i (by omega), ?_⟩
    exact nm_r (e' := ft_Cpy st cp (8 * s) (i + 1)) (by rw [ft_cly s i (by omega), nI_clamp (by omega)]; rfl) (nm_r (nI_1 i) (hn _ rfl))
end
end
section
def i_Rel (_ : Nat) (u : SX) (v : SY) : Prop := ∃ (d s : Nat) (st cp ln wt : Nat → Int32) (L : Nat → Nat), u = (nI d, nI s, st, cp, ln, wt) ∧ v = (nI d, nI s, st, cp, ln, wt) ∧ d ≤ 8 ∧ s ≤ 40 ∧ ∀ j, ln j = nI (L j) ∧ L j ≤ 8
theorem i_up {k : Nat} {u : SX} {v : SY} (h : i_Rel k u v) : i_Rel (k + 3) u v := h
theorem i_vc0 : wpX_init (fun u => wpY_init (fun v => i_Rel 0 u v)) :=
  ⟨0, 0, _, _, _, _, fun _ => 0, rfl, rfl, Nat.zero_le 8, Nat.zero_le 40, fun _ => ⟨rfl, Nat.zero_le 8⟩⟩
theorem i_vc_call {k : Nat} {u : SX} {v : SY} (I : i_Rel k u v) (hk : k + 3 ≤ 1536) (v1 : Int32) : wpX_call (fun r u' => wpY_call (fun r' v' => r' = r ∧ i_Rel (k + 3) u' v') v v1) u v1 := by
  obtain ⟨d, s, st, cp, ln, wt, L, rfl, rfl, hd, hs, hL⟩ := I
  have ed : (nI d).toNatClampNeg = d := nI_clamp (by omega)
  have e8 : nI d = 8 ↔ d = 8 := by rw [← ft_8]; exact nI_eq (by omega) (by omega)
  unfold wpX_call wpY_call
  dsimp only
  refine ft_Xf v1 _ (fun h => ?_) (fun h => ?_)
  · refine br_f ft_z1 ?_
    refine ek_if (d := d < 8) (by rw [← ft_8]; exact nI_ltI (by omega) (by omega)) (fun g => ?_) (fun g => ?_)
    · refine ⟨vp_in_nI g (by omega), nm_r (e' := upd st d v1) (by rw [ed]) (nm_r (nI_1 d) ?_)⟩
      refine ft_Yf v1 _ (fun _ => ?_) (fun z => absurd h z)
      refine br_t rfl (br_f (fun z => absurd (e8.mp z) (by omega)) ?_)
      refine ⟨vp_in_nI g (by omega), nm_r (e' := upd st d v1) (by rw [ed]) (nm_r (nI_1 d) ?_)⟩
      exact ⟨rfl, d + 1, s, upd st d v1, cp, ln, wt, L, rfl, rfl, g, hs, hL⟩
    · refine ft_Yf v1 _ (fun _ => ?_) (fun z => absurd h z)
      refine br_t rfl (br_t (e8.mpr (by omega)) ?_)
      exact ⟨rfl, d, s, st, cp, ln, wt, L, rfl, rfl, hd, hs, hL⟩
  · refine br_t rfl ?_
    refine ft_Yf v1 _ (fun z => absurd z h) (fun _ => ?_)
    refine br_f ft_z1 ?_
    exact ⟨rfl, d, s, st, cp, ln, wt, L, rfl, rfl, hd, hs, hL⟩
theorem i_vc_leave {k : Nat} {u : SX} {v : SY} (I : i_Rel k u v) (hk : k + 3 ≤ 1536) : wpX_leave (fun r u' => wpY_leave (fun r' v' => r' = r ∧ i_Rel (k + 3) u' v') v) u := by
  obtain ⟨d, s, st, cp, ln, wt, L, rfl, rfl, hd, hs, hL⟩ := I
  cases d with
  | zero => exact br_f (nI_nlt (Nat.le_refl 0) (by decide)) (br_t rfl ⟨rfl, 0, s, st, cp, ln, wt, L, rfl, rfl, hd, hs, hL⟩)
  | succ d =>
    refine br_t (nI_lt (a := 0) (by omega) (by omega)) (nm_r (nI_pred d) ⟨vp_in_nI (by omega) (by omega), ?_⟩)
    refine br_f (nI_ne0 (by omega) (by omega)) (nm_r (nI_pred d) ⟨vp_in_nI (by omega) (by omega), ?_⟩)
    exact ⟨rfl, d, s, st, cp, ln, wt, L, rfl, rfl, by omega, hs, hL⟩
theorem i_vc_sample {k : Nat} {u : SX} {v : SY} (I : i_Rel k u v) (hk : k + 3 ≤ 1536) (v1 : Int32) : wpX_sample (fun r u' => wpY_sample (fun r' v' => r' = r ∧ i_Rel (k + 3) u' v') v v1) u v1 := by
  obtain ⟨d, s, st, cp, ln, wt, L, rfl, rfl, hd, hs, hL⟩ := I
  have e40 : nI s = 40 ↔ s = 40 := by rw [← ft_40]; exact nI_eq (by omega) (by omega)
  refine br_c (fun a => ?_) (fun a => br_c (fun b => ?_) (fun b => ?_))
  · exact br_t a ⟨rfl, d, s, st, cp, ln, wt, L, rfl, rfl, hd, hs, hL⟩
  · exact br_f a (br_t b ⟨rfl, d, s, st, cp, ln, wt, L, rfl, rfl, hd, hs, hL⟩)
  refine ek_if (d := s < 40) (by rw [← ft_40]; exact nI_ltI (by omega) (by omega)) (fun g => ?_) (fun g => ?_)
  · refine nm_r (ft_xm s) (ft_Xcpy hd g v1 _ ?_)
    refine br_f a (br_f b (br_f (fun z => absurd (e40.mp z) (by omega)) (ft_Ycpy hd g v1 _ ?_)))
    refine ⟨rfl, d, s + 1, st, ft_Cpy st cp (8 * s) d, upd ln s (nI d), upd wt s v1, fun j => if j = s then d else L j, rfl, rfl, hd, g, fun j => ?_⟩
    by_cases e : j = s
    · subst e
      dsimp only
      rw [pk_us, if_pos rfl]
      exact ⟨rfl, hd⟩
    · dsimp only
      rw [pk_un e, if_neg e]
      exact hL j
  · exact br_f a (br_f b (br_t (e40.mpr (by omega)) ⟨rfl, d, s, st, cp, ln, wt, L, rfl, rfl, hd, hs, hL⟩))
theorem i_vc_total {k : Nat} {u : SX} {v : SY} (I : i_Rel k u v) (hk : k + 3 ≤ 1536) : wpX_total (fun r => wpY_total (fun r' => r' = r ∧ i_Rel (k + 3) u v) v) u := by
  have J := I
  obtain ⟨d, s, st, cp, ln, wt, L, rfl, rfl, hd, hs, hL⟩ := I
  exact ft_Xtotal hd hs hL _ (ft_Ytotal hd hs hL _ ⟨rfl, J⟩)
theorem i_vc_own {k : Nat} {u : SX} {v : SY} (I : i_Rel k u v) (hk : k + 3 ≤ 1536) : wpX_own (fun r => wpY_own (fun r' => r' = r ∧ i_Rel (k + 3) u v) v) u := by
  have J := I
  obtain ⟨d, s, st, cp, ln, wt, L, rfl, rfl, hd, hs, hL⟩ := I
  exact ft_Xown hd hs hL _ (ft_Yown hd hs hL _ ⟨rfl, J⟩)
theorem i_vc_hottest {k : Nat} {u : SX} {v : SY} (I : i_Rel k u v) (hk : k + 3 ≤ 1536) : wpX_hottest (fun r => wpY_hottest (fun r' => r' = r ∧ i_Rel (k + 3) u v) v) u := by
  have J := I
  obtain ⟨d, s, st, cp, ln, wt, L, rfl, rfl, hd, hs, hL⟩ := I
  obtain ⟨r, hX, hY⟩ := ft_hot (st := st) (cp := cp) (wt := wt) hd hs hL
  exact hX _ (hY _ ⟨rfl, J⟩)
theorem i_vc_inclusive {k : Nat} {u : SX} {v : SY} (I : i_Rel k u v) (hk : k + 3 ≤ 1536) (v1 : Int32) : wpX_inclusive (fun r => wpY_inclusive (fun r' => r' = r ∧ i_Rel (k + 3) u v) v v1) u v1 := by
  have J := I
  obtain ⟨d, s, st, cp, ln, wt, L, rfl, rfl, hd, hs, hL⟩ := I
  unfold wpX_inclusive wpY_inclusive
  dsimp only
  refine ft_Xf v1 _ (fun h => ?_) (fun h => ?_)
  · refine br_f ft_z1 ?_
    refine ft_Xinc hs hL v1 _ ?_
    refine ft_Yf v1 _ (fun _ => ?_) (fun z => absurd h z)
    refine br_t rfl ?_
    refine ft_Ystg hs hL (-1) v1 _ ⟨?_, J⟩
    exact ft_sumC s (fun j _ => ft_stI)
  · refine br_t rfl ?_
    refine ft_Yf v1 _ (fun z => absurd z h) (fun _ => ?_)
    exact br_f ft_z1 ⟨rfl, J⟩
theorem i_vc_exclusive {k : Nat} {u : SX} {v : SY} (I : i_Rel k u v) (hk : k + 3 ≤ 1536) (v1 : Int32) : wpX_exclusive (fun r => wpY_exclusive (fun r' => r' = r ∧ i_Rel (k + 3) u v) v v1) u v1 := by
  have J := I
  obtain ⟨d, s, st, cp, ln, wt, L, rfl, rfl, hd, hs, hL⟩ := I
  unfold wpX_exclusive wpY_exclusive
  dsimp only
  refine ft_Xf v1 _ (fun h => ?_) (fun h => ?_)
  · refine br_f ft_z1 ?_
    refine ft_Xexc hs hL v1 _ ?_
    refine ft_Yf v1 _ (fun _ => ?_) (fun z => absurd h z)
    refine br_t rfl ?_
    exact ft_Yexc hs hL v1 _ ⟨rfl, J⟩
  · refine br_t rfl ?_
    refine ft_Yf v1 _ (fun z => absurd z h) (fun _ => ?_)
    exact br_f ft_z1 ⟨rfl, J⟩
theorem i_vc_edge {k : Nat} {u : SX} {v : SY} (I : i_Rel k u v) (hk : k + 3 ≤ 1536) (v1 : Int32) (v2 : Int32) : wpX_edge (fun r => wpY_edge (fun r' => r' = r ∧ i_Rel (k + 3) u v) v v1 v2) u v1 v2 := by
  have J := I
  obtain ⟨d, s, st, cp, ln, wt, L, rfl, rfl, hd, hs, hL⟩ := I
  unfold wpX_edge wpY_edge
  dsimp only
  refine ft_Xf v1 _ (fun h => ?_) (fun h => ?_)
  · refine br_f ft_z1 ?_
    refine ft_Xf v2 _ (fun g => ?_) (fun g => ?_)
    · refine br_f ft_z1 ?_
      refine ft_Xedge hs hL v1 v2 _ ?_
      refine ft_Yf v1 _ (fun _ => ?_) (fun z => absurd h z)
      refine br_t rfl ?_
      refine ft_Yf v2 _ (fun _ => ?_) (fun z => absurd g z)
      refine br_t rfl ?_
      refine ft_Ystg hs hL v1 v2 _ ⟨?_, J⟩
      exact ft_sumC s (fun j _ => ft_stE h.1)
    · refine br_t rfl ?_
      refine ft_Yf v1 _ (fun _ => ?_) (fun z => absurd h z)
      refine br_t rfl ?_
      refine ft_Yf v2 _ (fun z => absurd z g) (fun _ => ?_)
      exact br_f ft_z1 ⟨rfl, J⟩
  · refine br_t rfl ?_
    refine ft_Yf v1 _ (fun z => absurd z h) (fun _ => ?_)
    exact br_f ft_z1 ⟨rfl, J⟩
theorem i_vc_paths {k : Nat} {u : SX} {v : SY} (I : i_Rel k u v) (hk : k + 3 ≤ 1536) (v1 : Int32) : wpX_paths (fun r => wpY_paths (fun r' => r' = r ∧ i_Rel (k + 3) u v) v v1) u v1 := by
  have J := I
  obtain ⟨d, s, st, cp, ln, wt, L, rfl, rfl, hd, hs, hL⟩ := I
  refine br_c (fun h => ?_) (fun h => ?_)
  · exact ft_Xpo hs hL v1 _ (br_t h (ft_Ypo hs hL v1 (ft_pos h) _ ⟨rfl, J⟩))
  · exact ft_Xpo hs hL 1 _ (br_f h (ft_Ypo hs hL 1 (by decide) _ ⟨rfl, J⟩))
theorem i_vc_deepest {k : Nat} {u : SX} {v : SY} (I : i_Rel k u v) (hk : k + 3 ≤ 1536) (v1 : Int32) : wpX_deepest (fun r => wpY_deepest (fun r' => r' = r ∧ i_Rel (k + 3) u v) v v1) u v1 := by
  have J := I
  obtain ⟨d, s, st, cp, ln, wt, L, rfl, rfl, hd, hs, hL⟩ := I
  refine br_c (fun h => ?_) (fun h => ?_)
  · exact ft_Xdo hs hL v1 _ (br_t h (ft_Ydo hs hL v1 (ft_pos h) _ ⟨rfl, J⟩))
  · exact ft_Xdo hs hL 1 _ (br_f h (ft_Ydo hs hL 1 (by decide) _ ⟨rfl, J⟩))
end
