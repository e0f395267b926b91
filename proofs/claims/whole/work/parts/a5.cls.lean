/-! THE EXAMPLE: all columns -/
def plw (cof : Int → Int) (nwf : Int → Bool) : List rw0 → List (Nat × Int)
  | [] => []
  | w :: ws => ls_al (pls cof nwf 6) 1 w.1 ++ plw cof nwf ws
theorem plw_len {cof : Int → Int} {nwf : Int → Bool} : ∀ ws : List rw0, (plw cof nwf ws).length ≤ rs_sz ws := by
  intro ws
  induction ws with
  | nil => exact Nat.le_refl _
  | cons w ws ih =>
    show (ls_al (pls cof nwf 6) 1 w.1 ++ plw cof nwf ws).length ≤ rw_sz w + rs_sz ws
    rw [List.length_append]
    have h : (ls_al (pls cof nwf 6) 1 w.1).length ≤ rw_sz w := pls_ls_len w.1 1
    omega
theorem plw_sub {cof : Int → Int} {nwf : Int → Bool} : ∀ (ws : List rw0) (w : rw0), w ∈ ws → (ls_al (pls cof nwf 6) 1 w.1).Sublist (plw cof nwf ws) := by
  intro ws
  induction ws with
  | nil => intro w h; exact absurd h (by simp)
  | cons u ws ih =>
    intro w h
    show (ls_al (pls cof nwf 6) 1 w.1).Sublist (ls_al (pls cof nwf 6) 1 u.1 ++ plw cof nwf ws)
    rcases List.mem_cons.mp h with e | e
    · rw [e]; exact List.sublist_append_left _ _
    · exact (ih w e).trans (List.sublist_append_right _ _)
def sbs (b : Nat → Nat) : Nat → Nat → Nat
  | 0, _ => 0
  | k + 1, z => b z + sbs b k (z + 1)
theorem ext_len {f : Nat → Int → List Int} {W : Nat → Int} {b : Nat → Nat} : ∀ (k z : Nat), (∀ j : Nat, z ≤ j → j < z + k → (f (j + 1) (W j)).length ≤ 1 + 15 * b j) → (ext f W k z).length ≤ 2 * k + 15 * sbs b k z := by
  intro k
  induction k with
  | zero => intro z _; exact Nat.zero_le _
  | succ k ih =>
    intro z h
    have e : (ext f W (k + 1) z).length = (if z = 0 then ([] : List Int) else [32]).length + ((f (z + 1) (W z)).length + (ext f W k (z + 1)).length) := by
      show ((if z = 0 then ([] : List Int) else [32]) ++ (f (z + 1) (W z) ++ ext f W k (z + 1))).length = _
      rw [List.length_append, List.length_append]
    have e2 : sbs b (k + 1) z = b z + sbs b k (z + 1) := rfl
    have h1 : (if z = 0 then ([] : List Int) else [32]).length ≤ 1 := by split <;> simp
    have h2 := h z (by omega) (by omega)
    have h3 := ih (z + 1) (fun j g1 g2 => h j (by omega) (by omega))
    rw [e, e2]
    omega
section CLS
variable {K : Nat → Int} {F Ic : Nat → Nat → Int} {aT W : Nat → Int} {r s s' N m wd : Nat} {g : Nat → Int} {nmL : Nat → List Int} {ws : List rw0}
theorem W_ty {z : Nat} (hE : rE F aT W r s N m wd) (hz : z < wd) : W z = 6 ∨ ∃ T : Nat, T < N ∧ W z = (T : Int) := by
  obtain ⟨-, at1, at2⟩ := hE.2.2.2.2.2.2 z hz
  rw [at1] at at2 ⊢
  unfold lx at at2 ⊢
  by_cases e : F (r + 27) z = 8
  · rw [if_pos e]; exact Or.inl rfl
  · rw [if_neg e] at at2 ⊢
    have := fx_rg (F (r + 9)) N (F (r + 27) z)
    exact Or.inr ⟨(fx (F (r + 9)) N (F (r + 27) z)).toNat, by omega, by omega⟩
theorem jst_kv {a : Nat → List (Nat × Int)} {nr : Nat} (hj : jst a nr F r m K) : ∀ q : Nat, K q = -1 ∨ (vdf m (K q) ∧ K q ≤ 1099) := by
  intro q
  rcases Classical.em (K q = -1) with h | h
  · exact Or.inl h
  · obtain ⟨ρ, v, -, -, h3, h4, -⟩ := hj q h
    exact Or.inr ⟨h3, h4⟩
theorem cols_all (hE : rE F aT W r s N m wd) (hTy : tyS F r N m) (hs : s' < 2) (hC : cE F r s' N m Ic) (ho : ∀ w ∈ ws, rw_ok w) (hf : rsf (fx g m) (F (r + 5)) (F (r + 6)) aT W wd ws = none) (h60 : rs_sz ws ≤ 60) (hj : jst (ak (acR (fx g m) (nwc F r) ws)) ws.length F r m K) (hnm : ∀ c : Nat, (nmL c).length ≤ 8) : (∀ z : Nat, z < wd → AA K F aT r m 6 (z + 1) (W z)) ∧ (ext (wtx K F aT r nmL 6) W wd 0).length ≤ 1200 := by
  have hkv := jst_kv hj
  have wd4 := hE.2.2.2.1
  have hH : ∀ z : Nat, z < wd → ∀ q : Nat, un (z + 1) q → K q ≠ -1 → wit K F aT r m g (plw (fx g m) (nwc F r) ws) 6 (z + 1) (W z) q := by
    intro z hz q hq hk
    obtain ⟨ρ, v, h1, h2, h3, h4, h5, h6⟩ := hj q hk
    have hw : ws[ρ]? = some ws[ρ] := List.getElem?_eq_getElem h1
    have hwm : ws[ρ] ∈ ws := List.getElem_mem h1
    obtain ⟨t1, t2⟩ := tyl_of _ _ _ (rsf_at ws ρ _ hf hw)
    have ea : ak (acR (fx g m) (nwc F r) ws) ρ = akf (ls_al (al (fx g m) (nwc F r) 6) 1 ws[ρ].1) := by
      unfold ak
      rw [acR_some hw]
    rw [ea] at h2 h6
    obtain ⟨i, k, a1, a2, a3, a4, a5, a6⟩ := kid_of ws[ρ].1 1 W (q, v) (ho _ hwm).2.2 t1 h2
    have u1 := ((al_all (g := g) hE hTy 6 ((1 + i + 2) * 4 ^ 6) (1 + i) _ k (by omega) (Nat.le_refl _) a2 a3).1 _ a4).1
    have u1 : un (1 + i) q := u1
    have ei : i = z := by
      rcases Classical.em (i = z) with e | e
      · exact e
      · exact (un_sib (P := 0) ⟨by omega, by omega⟩ ⟨by omega, by omega⟩ (show 1 + i ≠ z + 1 by omega) u1 hq).elim
    subst ei
    rw [Nat.add_comm 1 i] at a4 a5 a6
    exact ⟨6, k, v, Nat.le_refl _, a2, a3, a4, h5, fun x hx g1 g2 => h6 x (a5 x hx) g1 g2, a6.trans (plw_sub ws _ hwm)⟩
  have L : ∀ z : Nat, z < wd → AA K F aT r m 6 (z + 1) (W z) ∧ (wtx K F aT r nmL 6 (z + 1) (W z)).length ≤ 1 + 15 * (plw (fx g m) (nwc F r) ws).countP (unb (z + 1)) := by
    intro z hz
    obtain ⟨l1, l2, -⟩ := len_all (g := g) (PL := plw (fx g m) (nwc F r) ws) (s := s') ⟨hs, hE.2⟩ hTy hC hkv hnm 6 (z + 1) (W z) (W_ty hE hz) (hH z hz)
    exact ⟨l1, l2⟩
  refine ⟨fun z hz => (L z hz).1, ?_⟩
  have h1 := ext_len (f := wtx K F aT r nmL 6) (W := W) (b := fun j => (plw (fx g m) (nwc F r) ws).countP (unb (j + 1))) wd 0 (fun j _ hj => (L j (by omega)).2)
  have h2 := cnt_cols (plw (fx g m) (nwc F r) ws)
  have h3 := plw_len (cof := fx g m) (nwf := nwc F r) ws
  have h4 : sbs (fun j => (plw (fx g m) (nwc F r) ws).countP (unb (j + 1))) wd 0 ≤ (plw (fx g m) (nwc F r) ws).countP (unb 1) + ((plw (fx g m) (nwc F r) ws).countP (unb 2) + ((plw (fx g m) (nwc F r) ws).countP (unb 3) + (plw (fx g m) (nwc F r) ws).countP (unb 4))) := by
    have h5 : wd = 0 ∨ wd = 1 ∨ wd = 2 ∨ wd = 3 ∨ wd = 4 := by omega
    clear L hH hE hC hf h1
    rcases h5 with e | e | e | e | e
    · subst e
      show 0 ≤ _
      omega
    · subst e
      show (plw (fx g m) (nwc F r) ws).countP (unb 1) + 0 ≤ _
      omega
    · subst e
      show (plw (fx g m) (nwc F r) ws).countP (unb 1) + ((plw (fx g m) (nwc F r) ws).countP (unb 2) + 0) ≤ _
      omega
    · subst e
      show (plw (fx g m) (nwc F r) ws).countP (unb 1) + ((plw (fx g m) (nwc F r) ws).countP (unb 2) + ((plw (fx g m) (nwc F r) ws).countP (unb 3) + 0)) ≤ _
      omega
    · subst e
      show (plw (fx g m) (nwc F r) ws).countP (unb 1) + ((plw (fx g m) (nwc F r) ws).countP (unb 2) + ((plw (fx g m) (nwc F r) ws).countP (unb 3) + ((plw (fx g m) (nwc F r) ws).countP (unb 4) + 0))) ≤ _
      omega
  omega
end CLS
