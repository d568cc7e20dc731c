theorem pk_mul (a b : Nat) : nI a * nI b = nI (a * b) := (Int32.ofNat_mul a b).symm
theorem pk_us {f : Nat → Int32} {k : Nat} {x : Int32} : upd f k x k = x := if_pos rfl
theorem pk_un {f : Nat → Int32} {k j : Nat} {x : Int32} (h : j ≠ k) : upd f k x j = f j := if_neg h
theorem ek_if {c d A B : Prop} (e : c ↔ d) (f : d → A) (g : ¬ d → B) : (c → A) ∧ (¬ c → B) :=
  ⟨fun z => f (e.mp z), fun z => g (fun y => z (e.mpr y))⟩
theorem pk_loop {σ : Type} (W : Nat → Nat → σ → Prop) (I : Nat → σ → Prop) (e i0 : Nat) (s : σ) (hi : i0 ≤ e) (h0 : I i0 s) (hx : ∀ n s, I e s → W (n + 1) e s)
    (hs : ∀ n i s, i < e → I i s → (∀ s', I (i + 1) s' → W n (i + 1) s') → W (n + 1) i s) : ∃ n, W n i0 s :=
  ⟨e + 1, loop_i W I e hx hs (e + 1) i0 s hi (by omega) h0⟩
theorem ft_8 : nI 8 = 8 := by decide +kernel
theorem ft_40 : nI 40 = 40 := by decide +kernel
theorem ft_xm (j : Nat) : nI j * 8 = nI (8 * j) := by rw [← ft_8, pk_mul, Nat.mul_comm]
theorem ft_ym (j : Nat) : 8 * nI j = nI (8 * j) := by rw [← ft_8, pk_mul]
theorem ft_in (j i : Nat) (h : 8 * j + i < 320) : vp_in (nI (8 * j) + nI i) 320 := by
  rw [nI_add]; exact vp_in_nI h (by omega)
theorem ft_cl (j i : Nat) (h : 8 * j + i < 320) : (nI (8 * j) + nI i).toNatClampNeg = 8 * j + i := by
  rw [nI_add]; exact nI_clamp (by omega)
theorem ft_inx (j i : Nat) (h : 8 * j + i < 320) : vp_in (nI j * 8 + nI i) 320 := by
  rw [ft_xm]; exact ft_in j i h
theorem ft_clx (j i : Nat) (h : 8 * j + i < 320) : (nI j * 8 + nI i).toNatClampNeg = 8 * j + i := by
  rw [ft_xm]; exact ft_cl j i h
theorem ft_iny (j i : Nat) (h : 8 * j + i < 320) : vp_in (8 * nI j + nI i) 320 := by
  rw [ft_ym]; exact ft_in j i h
theorem ft_cly (j i : Nat) (h : 8 * j + i < 320) : (8 * nI j + nI i).toNatClampNeg = 8 * j + i := by
  rw [ft_ym]; exact ft_cl j i h
theorem ft_pr (j i : Nat) : nI (8 * j) + nI (i + 1) - 1 = nI (8 * j + i) := by
  rw [nI_add, ← Nat.add_assoc, nI_pred]
theorem ft_prx (j i : Nat) : nI j * 8 + nI (i + 1) - 1 = nI (8 * j + i) := by
  rw [ft_xm]; exact ft_pr j i
theorem ft_pry (j i : Nat) : 8 * nI j + nI (i + 1) - 1 = nI (8 * j + i) := by
  rw [ft_ym]; exact ft_pr j i
theorem ft_i1 : (-1 : Int32) < 0 := by decide
theorem ft_z1 : ¬ (1 : Int32) = 0 := by decide
noncomputable def ft_Sum (c : Nat → Prop) (w : Nat → Int32) : Nat → Int32
  | 0 => 0
  | j + 1 => @ite _ (c j) (Classical.propDecidable _) (ft_Sum c w j + w j) (ft_Sum c w j)
theorem ft_sumT {c : Nat → Prop} {w : Nat → Int32} {j : Nat} (h : c j) : ft_Sum c w (j + 1) = ft_Sum c w j + w j := by
  rw [ft_Sum]; exact if_pos h
theorem ft_sumF {c : Nat → Prop} {w : Nat → Int32} {j : Nat} (h : ¬ c j) : ft_Sum c w (j + 1) = ft_Sum c w j := by
  rw [ft_Sum]; exact if_neg h
theorem ft_sumC {c c' : Nat → Prop} {w : Nat → Int32} : ∀ s : Nat, (∀ j, j < s → (c j ↔ c' j)) → ft_Sum c w s = ft_Sum c' w s := by
  intro s
  induction s with
  | zero => intro _; rfl
  | succ s ih =>
    intro h
    have hi := ih (fun j hj => h j (by omega))
    by_cases z : c s
    · rw [ft_sumT z, ft_sumT ((h s (by omega)).mp z), hi]
    · rw [ft_sumF z, ft_sumF (fun y => z ((h s (by omega)).mpr y)), hi]
theorem ft_sum0 {c : Nat → Prop} {w : Nat → Int32} : ∀ s : Nat, (∀ j, j < s → ¬ c j) → ft_Sum c w s = 0 := by
  intro s
  induction s with
  | zero => intro _; rfl
  | succ s ih =>
    intro h
    rw [ft_sumF (h s (by omega)), ih (fun j hj => h j (by omega))]
def ft_Ov (d : Nat) (st cp : Nat → Int32) (L : Nat → Nat) (j : Nat) : Prop := d ≤ L j ∧ ∀ i, i < d → cp (8 * j + i) = st i
def ft_Sh (cp : Nat → Int32) (L : Nat → Nat) (n a b : Nat) : Prop := n ≤ L a ∧ n ≤ L b ∧ ∀ i, i < n → cp (8 * a + i) = cp (8 * b + i)
def ft_Has (cp : Nat → Int32) (L : Nat → Nat) (f : Int32) (j : Nat) : Prop := ∃ i, i < L j ∧ cp (8 * j + i) = f
def ft_End (cp : Nat → Int32) (L : Nat → Nat) (f : Int32) (j : Nat) : Prop := ∃ i, L j = i + 1 ∧ cp (8 * j + i) = f
def ft_Edg (cp : Nat → Int32) (L : Nat → Nat) (a b : Int32) (j : Nat) : Prop := ∃ i, i + 1 < L j ∧ cp (8 * j + i) = a ∧ cp (8 * j + (i + 1)) = b
def ft_St (cp : Nat → Int32) (L : Nat → Nat) (a f : Int32) (j : Nat) : Prop := ∃ i, i < L j ∧ cp (8 * j + i) = f ∧ (a < 0 ∨ ∃ k, i = k + 1 ∧ cp (8 * j + k) = a)
def ft_Fst (cp : Nat → Int32) (L : Nat → Nat) (n j : Nat) : Prop := ∀ t, t < j → ¬ ft_Sh cp L n t j
theorem ft_shS {cp : Nat → Int32} {L : Nat → Nat} {n a b : Nat} (h : ft_Sh cp L n a b) : ft_Sh cp L n b a :=
  ⟨h.2.1, h.1, fun i hi => (h.2.2 i hi).symm⟩
theorem ft_shT {cp : Nat → Int32} {L : Nat → Nat} {n a b c : Nat} (h : ft_Sh cp L n a b) (g : ft_Sh cp L n b c) : ft_Sh cp L n a c :=
  ⟨h.1, g.2.1, fun i hi => (h.2.2 i hi).trans (g.2.2 i hi)⟩
theorem ft_stI {cp : Nat → Int32} {L : Nat → Nat} {f : Int32} {j : Nat} : ft_St cp L (-1) f j ↔ ft_Has cp L f j :=
  ⟨fun ⟨i, h, e, _⟩ => ⟨i, h, e⟩, fun ⟨i, h, e⟩ => ⟨i, h, e, Or.inl ft_i1⟩⟩
theorem ft_stE {cp : Nat → Int32} {L : Nat → Nat} {a f : Int32} {j : Nat} (ha : ¬ a < 0) : ft_St cp L a f j ↔ ft_Edg cp L a f j := by
  constructor
  · intro ⟨i, h, e, z⟩
    cases z with
    | inl z => exact absurd z ha
    | inr z =>
      obtain ⟨k, rfl, ek⟩ := z
      exact ⟨k, h, ek, e⟩
  · intro ⟨i, h, e, z⟩
    exact ⟨i + 1, h, z, Or.inr ⟨i, rfl, e⟩⟩
