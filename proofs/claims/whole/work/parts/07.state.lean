def ft_F (x : Int32) : Prop := ¬ x < 0 ∧ ¬ 8 ≤ x
theorem ft_le7 (x : Int32) : x ≤ 7 ↔ ¬ 8 ≤ x := by
  rw [Int32.le_iff_toInt_le, Int32.le_iff_toInt_le]
  have e7 : (7 : Int32).toInt = 7 := by decide
  have e8 : (8 : Int32).toInt = 8 := by decide
  rw [e7, e8]
  omega
theorem ft_pos {x : Int32} (h : 1 ≤ x) : 0 < x := by
  rw [Int32.le_iff_toInt_le] at h
  rw [Int32.lt_iff_toInt_lt]
  have e1 : (1 : Int32).toInt = 1 := by decide
  have e0 : (0 : Int32).toInt = 0 := by decide
  rw [e1] at h
  rw [e0]
  omega
theorem ft_Xf (x : Int32) (post : Int32 → Prop) (h1 : ft_F x → post 1) (h0 : ¬ ft_F x → post 0) : wpX_isFunction post x :=
  br_c (fun a => h0 (fun z => z.1 a)) (fun a => br_c (fun b => h0 (fun z => z.2 b)) (fun b => h1 ⟨a, b⟩))
theorem ft_Yf (x : Int32) (post : Int32 → Prop) (h1 : ft_F x → post 0) (h0 : ¬ ft_F x → post 1) : wpY_bad post x :=
  br_c (fun a => h0 (fun z => z.1 a)) (fun a => ek_if (ft_le7 x) (fun b => h1 ⟨a, b⟩) (fun b => h0 (fun z => b z.2)))
def ft_Cpy (st cp : Nat → Int32) (b : Nat) : Nat → Nat → Int32
  | 0 => cp
  | i + 1 => upd (ft_Cpy st cp b i) (b + i) (st i)
section
variable {d s : Nat} {st cp ln wt : Nat → Int32} {L : Nat → Nat}
theorem ft_Xcpy (hd : d ≤ 8) (hs : s < 40) (w : Int32) (post : Int32 → SX → Prop)
    (hp : post (nI (s + 1)) (nI d, nI (s + 1), st, ft_Cpy st cp (8 * s) d, upd ln s (nI d), upd wt s w)) :
    ∃ n, wX_sample_32 post w (nI (8 * s)) (nI d) (nI s) n 0 st cp ln wt := by
  have es : (nI s).toNatClampNeg = s := nI_clamp (by omega)
  refine loop_0 (fun n i c => wX_sample_32 post w (nI (8 * s)) (nI d) (nI s) n (nI i) st c ln wt) (fun i c => c = ft_Cpy st cp (8 * s) i) d cp rfl ?_ ?_
  · intro n c hc
    subst hc
    refine br_t (nI_le (Nat.le_refl d) (by omega)) ⟨vp_in_nI hs (by omega), nm_r (e' := upd ln s (nI d)) (by rw [es]) ⟨vp_in_nI hs (by omega), nm_r (e' := upd wt s w) (by rw [es]) (nm_r (nI_1 s) hp)⟩⟩
  · intro n i c hi hc hn
    subst hc
    refine br_f (nI_ge hi (by omega)) ⟨vp_in_nI (by omega) (by omega), ft_in s i (by omega), ?_⟩
    exact nm_r (e' := ft_Cpy st cp (8 * s) (i + 1)) (by rw [ft_cl s i (by omega), nI_clamp (by omega)]; rfl) (nm_r (nI_1 i) (hn _ rfl))
theorem ft_Ycpy (hd : d ≤ 8) (hs : s < 40) (w : Int32) (post : Int32 → SY → Prop)
    (hp : post (nI (s + 1)) (nI d, nI (s + 1), st, ft_Cpy st cp (8 * s) d, upd ln s (nI d), upd wt s w)) :
    ∃ n, wY_sample_24 post w (nI d) (nI s) n 0 st cp ln wt := by
  have es : (nI s).toNatClampNeg = s := nI_clamp (by omega)
  refine loop_0 (fun n i c => wY_sample_24 post w (nI d) (nI s) n (nI i) st c ln wt) (fun i c => c = ft_Cpy st cp (8 * s) i) d cp rfl ?_ ?_
  · intro n c hc
    subst hc
    refine br_t (nI_le (Nat.le_refl d) (by omega)) ⟨vp_in_nI hs (by omega), nm_r (e' := upd ln s (nI d)) (by rw [es]) ⟨vp_in_nI hs (by omega), nm_r (e' := upd wt s w) (by rw [es]) (nm_r (nI_1 s) hp)⟩⟩
  · intro n i c hi hc hn
    subst hc
    refine br_f (nI_ge hi (by omega)) ⟨vp_in_nI (by omega) (by omega), ft_iny s i (by omega), ?_⟩
    exact nm_r (e' := ft_Cpy st cp (8 * s) (i + 1)) (by rw [ft_cly s i (by omega), nI_clamp (by omega)]; rfl) (nm_r (nI_1 i) (hn _ rfl))
end
