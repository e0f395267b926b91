/-! SEARCH: the asks of all rows, and the class collects them -/
def acR (cof : Int → Int) (nwf : Int → Bool) (ws : List rw0) (ρ : Nat) : List (Nat × Int) := match ws[ρ]? with
  | some w => ls_al (al cof nwf 6) 1 w.1
  | none => []
theorem acR_some {cof : Int → Int} {nwf : Int → Bool} {ws : List rw0} {ρ : Nat} {w : rw0} (h : ws[ρ]? = some w) : acR cof nwf ws ρ = ls_al (al cof nwf 6) 1 w.1 := by unfold acR; rw [h]
theorem acR_none {cof : Int → Int} {nwf : Int → Bool} {ws : List rw0} {ρ : Nat} (h : ws.length ≤ ρ) : acR cof nwf ws ρ = [] := by unfold acR; rw [List.getElem?_eq_none h]
theorem rsf_at {cof : Int → Int} {cT ar aT W : Nat → Int} {wd : Nat} : ∀ (ws : List rw0) (ρ : Nat) (w : rw0), rsf cof cT ar aT W wd ws = none → ws[ρ]? = some w → ls_f (tf cof cT ar aT 6) (tm_at 6) w.2.2 W wd w.1 = none := by
  intro ws
  induction ws with
  | nil => intro ρ w _ h; exact absurd h (by simp)
  | cons u ws ih =>
    intro ρ w h hw
    have h' : oe (ls_f (tf cof cT ar aT 6) (tm_at 6) u.2.2 W wd u.1) (rsf cof cT ar aT W wd ws) = none := h
    obtain ⟨a, b⟩ := oe_none h'
    cases ρ with
    | zero =>
      have : u = w := by simpa using hw
      rw [← this]; exact a
    | succ ρ => exact ih ρ w b (by simpa using hw)
def bgs (a : Nat → List (Nat × Int)) (ρ : Nat) : Nat := ((List.range ρ).flatMap a).length
theorem bgs_s {a : Nat → List (Nat × Int)} {ρ : Nat} : bgs a (ρ + 1) = bgs a ρ + (a ρ).length := by
  unfold bgs
  rw [List.range_succ, List.flatMap_append, List.length_append]
  simp
theorem bgs_mono {a : Nat → List (Nat × Int)} : ∀ (k ρ : Nat), bgs a ρ ≤ bgs a (ρ + k) := by
  intro k
  induction k with
  | zero => intro ρ; exact Nat.le_refl _
  | succ k ih =>
    intro ρ
    have := ih ρ
    rw [show ρ + (k + 1) = ρ + k + 1 by omega, bgs_s]
    omega
theorem opn_le {a : Nat → List (Nat × Int)} {nr : Nat} {K : Nat → Int} : opn a nr K ≤ bgs a nr := List.countP_le_length
theorem bgs_sz {cof : Int → Int} {nwf : Int → Bool} {ws : List rw0} : ∀ ρ : Nat, ρ ≤ ws.length → bgs (ak (acR cof nwf ws)) ρ + rs_sz (ws.drop ρ) ≤ rs_sz ws := by
  intro ρ
  induction ρ with
  | zero => intro _; show 0 + rs_sz ws ≤ rs_sz ws; omega
  | succ ρ ih =>
    intro h
    have := ih (by omega)
    rw [bgs_s]
    rw [List.drop_eq_getElem_cons (by omega)] at this
    have e : rs_sz (ws[ρ] :: ws.drop (ρ + 1)) = rw_sz ws[ρ] + rs_sz (ws.drop (ρ + 1)) := rfl
    have hl : (ak (acR cof nwf ws) ρ).length ≤ rw_sz ws[ρ] := by
      unfold ak akf
      rw [acR_some (List.getElem?_eq_getElem (by omega))]
      exact Nat.le_trans (List.length_filter_le _ _) (ls_al_len _ _)
    omega
section RWS
variable {F : Nat → Nat → Int} {aT W : Nat → Int} {r s N m wd : Nat} {g : Nat → Int} {ws : List rw0}
theorem rows_al (hE : rE F aT W r s N m wd) (hTy : tyS F r N m) (ho : ∀ w ∈ ws, rw_ok w) (hf : rsf (fx g m) (F (r + 5)) (F (r + 6)) aT W wd ws = none) (ρ : Nat) (hρ : ρ < ws.length) : alL F aT r m 1 wd W 24576 (ak (acR (fx g m) (nwc F r) ws) ρ) := by
  have hw : ws[ρ]? = some ws[ρ] := List.getElem?_eq_getElem hρ
  have h1 := rsf_at ws ρ _ hf hw
  obtain ⟨t1, t2⟩ := tyl_of _ _ _ h1
  have wd4 := hE.2.2.2.1
  have := al_list (F := F) (aT := aT) (r := r) (m := m) (g := g) (bd := 24576) (P0 := 0) (fun p' w' t' h1 h2 h3 h4 => al_all hE hTy 6 24576 p' w' t' h1 h2 h3 h4) ws[ρ].1 1 W (Nat.le_refl _) (by omega) (by decide) (ho _ (List.getElem_mem hρ)).2.2 t1
  unfold ak
  rw [acR_some hw]
  rw [t2] at this
  exact this
theorem un_root {i q : Nat} (h : un (1 + i) q) (hq : q ≤ 4) : q = 1 + i := by
  obtain ⟨k, hk⟩ := h
  cases k with
  | zero => exact hk
  | succ k =>
    have h2 : pq k ((q - 1) / 4) = 1 + i := hk
    have := pq_le k ((q - 1) / 4)
    omega
theorem rows_ok (hE : rE F aT W r s N m wd) (hTy : tyS F r N m) (ho : ∀ w ∈ ws, rw_ok w) (hf : rsf (fx g m) (F (r + 5)) (F (r + 6)) aT W wd ws = none) : aOk (ak (acR (fx g m) (nwc F r) ws)) ws.length (twf F r) (vdf m) ∧ (∀ ρ : Nat, ρ < ws.length → aOrd [] (ak (acR (fx g m) (nwc F r) ws) ρ)) ∧ (∀ ρ : Nat, ρ < ws.length → ∀ x ∈ ak (acR (fx g m) (nwc F r) ws) ρ, x.2 ≤ 1099) ∧ (∀ ρ : Nat, cns (ak (acR (fx g m) (nwc F r) ws) ρ)) ∧ ∀ ρ : Nat, ∀ x ∈ ak (acR (fx g m) (nwc F r) ws) ρ, x.1 < 65536 := by
  have L := rows_al hE hTy ho hf
  have wd4 := hE.2.2.2.1
  have m36 := hE.2.2.1
  have par : ∀ ρ : Nat, ρ < ws.length → ∀ x ∈ ak (acR (fx g m) (nwc F r) ws) ρ, 4 < x.1 → ∃ c : Nat, (pr x.1, (c : Int)) ∈ ak (acR (fx g m) (nwc F r) ws) ρ ∧ unwR F aT r (aT (3 * c + (x.1 - 4 * pr x.1 - 1))) (twf F r x.2) := by
    intro ρ hρ x hx h4
    obtain ⟨i, i1, z1, z2, z3, z4, z5⟩ := (L ρ hρ).1 x hx
    exact z5 (by omega)
  refine ⟨⟨fun ρ hρ x hx => ?_, fun ρ hρ => (L ρ hρ).2.1, fun ρ ρ' hρ hρ' x hx y hy e hc => ?_, fun v hv => ?_⟩, fun ρ hρ => (L ρ hρ).2.2 [] (fun i hi h => absurd h (by omega)), fun ρ hρ x hx => ?_, fun ρ => ?_, fun ρ x hx => ?_⟩
  · obtain ⟨i, i1, z1, z2, z3, z4, z5⟩ := (L ρ hρ).1 x hx
    refine ⟨?_, ?_, ?_, fun h => ?_⟩
    · obtain ⟨k, hk⟩ := z1
      have := pq_le k x.1
      omega
    · rcases z2 with q | q
      · exact Or.inl q
      · exact Or.inr q.1
    · rcases z2 with q | q <;> omega
    · obtain ⟨c, hc, -⟩ := par ρ hρ x hx h
      exact ⟨c, hc⟩
  · rcases Nat.lt_or_ge 4 x.1 with h4 | h4
    · obtain ⟨c1, g1, g2⟩ := par ρ hρ x hx h4
      obtain ⟨c2, k1, k2⟩ := par ρ' hρ' y hy (by omega)
      obtain ⟨c, p1, p2⟩ : ∃ c : Int, (pr x.1, c) ∈ ak (acR (fx g m) (nwc F r) ws) ρ ∧ (pr x.1, c) ∈ ak (acR (fx g m) (nwc F r) ws) ρ' := by
        rcases hc with q | q
        · omega
        · exact q
      rw [← e] at k1 k2
      have e1 : (c1 : Int) = c := (L ρ hρ).2.1 _ g1 _ p1 rfl
      have e2 : (c2 : Int) = c := (L ρ' hρ').2.1 _ k1 _ p2 rfl
      have e3 : c1 = c2 := by omega
      rw [e3] at g2
      exact unwR_uniq g2 k2
    · obtain ⟨i, i1, z1, z2, z3, z4, z5⟩ := (L ρ hρ).1 x hx
      obtain ⟨i', i1', z1', z2', z3', z4', z5'⟩ := (L ρ' hρ').1 y hy
      have e1 := un_root z1 h4
      have e2 := un_root z1' (by omega)
      have e3 : i = i' := by omega
      subst e3
      exact unwR_uniq (z4 e1) (z4' e2)
  · unfold vdf at hv; omega
  · obtain ⟨i, i1, z1, z2, z3, z4, z5⟩ := (L ρ hρ).1 x hx
    unfold vok at z2; omega
  · rcases Nat.lt_or_ge ρ ws.length with h | h
    · exact (L ρ h).2.1
    · unfold ak
      rw [acR_none h]
      intro x hx
      exact absurd hx (by simp [akf])
  · rcases Nat.lt_or_ge ρ ws.length with h | h
    · obtain ⟨i, i1, z1, z2, z3, z4, z5⟩ := (L ρ h).1 x hx
      omega
    · unfold ak at hx
      rw [acR_none h] at hx
      exact absurd hx (by simp [akf])
end RWS
theorem xaC_bg {a : Nat → List (Nat × Int)} {bg bg' : Nat → Nat} {ns cnt : Nat} {I : Nat → Nat → Int} (h : xaC a bg ns cnt I) (hb : ∀ ρ : Nat, ρ < 12 → bg' ρ = bg ρ ∨ (a ρ = [] ∧ bg' ρ ≤ cnt)) : xaC a bg' ns cnt I := by
  obtain ⟨x1, x2, x3, x4, x5, x6, x7, x8⟩ := h
  refine ⟨x1, x2, x3, x4, x5, x6, fun ρ hρ => ?_, x8⟩
  rcases hb ρ hρ with q | ⟨q1, q2⟩
  · rw [q]; exact x7 ρ hρ
  · rw [q1]; exact ⟨q2, trivial⟩
theorem xaC_fr {a : Nat → List (Nat × Int)} {bg : Nat → Nat} {ns cnt : Nat} {I I' : Nat → Nat → Int} (h : xaC a bg ns cnt I) (hf : ∀ x : Nat, 34 ≤ x → x ≤ 39 → x ≠ 38 → I' x = I x) : xaC a bg ns cnt I' := by
  obtain ⟨x1, x2, x3, x4, x5, x6, x7, x8⟩ := h
  have f34 := hf 34 (by omega) (by omega) (by omega)
  have f35 := hf 35 (by omega) (by omega) (by omega)
  have f36 := hf 36 (by omega) (by omega) (by omega)
  have f37 := hf 37 (by omega) (by omega) (by omega)
  have f39 := hf 39 (by omega) (by omega) (by omega)
  refine ⟨by rw [f34]; exact x1, by rw [f34]; exact x2, x3, x4, by rw [f35]; exact x5, by rw [f35]; exact x6, fun ρ hρ => ⟨(x7 ρ hρ).1, xal_fr (Nat.le_refl _) (fun i _ => by rw [f35]) _ _ (x7 ρ hρ).2 (fun j _ _ => by rw [f36, f37]; exact ⟨rfl, rfl⟩)⟩, by rw [f39, f35]; exact x8⟩
def xqa_fr (I I' : Nat → Nat → Int) : Prop := ∀ a : Nat, a < 34 ∨ 39 < a → I' a = I a
section XCO
variable {n0 : Nat} {K : Nat → am_K} {F J : Nat → Nat → Int} {R : Nat → Nat → Option Nat} {aT W : Nat → Int} {r m s N wd : Nat} {Q : am_Q} {d : Nat}
theorem xw_rows_q {I : Nat → Nat → Int} (hr : r = 41 ∨ r = 71) (hf : xqa_fr F I) : ∀ (ws : List rw0) (ρ i : Nat), xw_rows F J r ρ i ws → xw_rows I J r ρ i ws := by
  intro ws
  induction ws with
  | nil => intro _ _ _; exact trivial
  | cons u us ih2 =>
    intro ρ' i' hu
    obtain ⟨u1, u2, u3, u4⟩ := hu
    refine ⟨by rw [hf (r + 25) (by omega)]; exact u1, by rw [hf (r + 29) (by omega)]; exact u2, ?_, ih2 _ _ u4⟩
    exact ft_HL_frame u3 (fun x j a1 a2 _ _ => by rw [hf x (by omega)]) (fun _ _ _ => rfl)
theorem x_collect (hB : am_B K R) (hr : r = 41 ∨ r = 71) (hE : rE F aT W r s N m wd) (hTy : tyS F r N m) {ws : List rw0} (h12 : ws.length ≤ 12) (h60 : rs_sz ws ≤ 60) (h3 : F r 3 = (ws.length : Int)) (hx : xw_rows F J r 0 0 ws) (hG : rs_G F (r + 15) (fx (J (r + 7)) m) 0 ws) (ho : ∀ w ∈ ws, rw_ok w) (hf : rsf (fx (J (r + 7)) m) (F (r + 5)) (F (r + 6)) aT W wd ws = none) (post : ∀ (ns : Nat) (I' : Nat → Nat → Int), xqa_fr F I' → xaC (ak (acR (fx (J (r + 7)) m) (nwc F r) ws)) (fun ρ => bgs (ak (acR (fx (J (r + 7)) m) (nwc F r) ws)) (min ρ ws.length)) ns (bgs (ak (acR (fx (J (r + 7)) m) (nwc F r) ws)) ws.length) I' → (∀ ρ : Nat, 0 < ws.length → ρ ≤ ws.length → I' 38 ρ = (bgs (ak (acR (fx (J (r + 7)) m) (nwc F r) ws)) ρ : Int)) → Q none (n0, K, I', J, R)) : am_WP (d + 16) (am_entry 79 [.inr (.inl 34), .inr (.inl r)] (n0, K, F, J, R)) Q := by
  obtain ⟨-, -, -, hcns, -⟩ := rows_ok (g := J (r + 7)) hE hTy ho hf
  have hbs := bgs_sz (cof := fx (J (r + 7)) m) (nwf := nwc F r) (ws := ws)
  generalize ha : ak (acR (fx (J (r + 7)) m) (nwc F r) ws) = a at post hcns hbs
  have k0 : K r = .inl 5 := am_kq (i := 0) hB hr (by decide) rfl
  have wd4 := hE.2.2.2.1
  have loop : ∀ (us : List rw0) (ρ i : Nat) (I : Nat → Nat → Int) (ns : Nat), ρ + us.length = ws.length → ws.drop ρ = us → xw_rows F J r ρ i us → rs_G F (r + 15) (fx (J (r + 7)) m) i us → i + rs_sz us ≤ 60 → xqa_fr F I → xaC (fun ρ' => if ρ' < ρ then a ρ' else []) (fun ρ' => bgs a (min ρ' ρ)) ns (bgs a ρ) I → (∀ ρ' : Nat, 0 < ρ → ρ' ≤ ρ → I 38 ρ' = (bgs a ρ' : Int)) → am_WP (d + 16) (79, 36, [.inr (.inl 34), .inr (.inl r), .inl (ρ : Int)], [], (0, 0), n0, K, I, J, R) Q := by
    intro us
    induction us with
    | nil =>
      intro ρ i I ns hl hd hx hG hi hfr hA h38
      have hl : ρ = ws.length := hl
      subst hl
      refine s_Asks_collect_36 ⟨k0, am_nm_k ((congrFun (hfr r (by omega)) 3).trans h3) ?_⟩
      rintro _ rfl _ _
      refine ⟨fun _ => post ns I hfr ?_ h38, fun h => absurd h (by omega)⟩
      have : (fun ρ' => if ρ' < ws.length then a ρ' else []) = a := by
        funext ρ'
        by_cases e : ρ' < ws.length
        · rw [if_pos e]
        · rw [if_neg e, ← ha]
          unfold ak
          rw [acR_none (by omega)]; rfl
      rw [this] at hA
      exact hA
    | cons w us ih =>
      intro ρ i I ns hl hd hx hG hi hfr hA h38
      have hl : ρ + (us.length + 1) = ws.length := hl
      obtain ⟨x1, x2, x3, x4⟩ := hx
      obtain ⟨g1, g2⟩ := hG
      have ew : ws[ρ]? = some w := by
        have := List.getElem?_drop (xs := ws) (i := ρ) (j := 0)
        rw [hd] at this
        simpa using this.symm
      have hd2 : ws.drop (ρ + 1) = us := by
        rw [← List.drop_drop, hd]; rfl
      have hwok : rw_ok w := ho w (List.mem_of_getElem? ew)
      have ez : rs_sz (w :: us) = rw_sz w + rs_sz us := rfl
      obtain ⟨t1, t2⟩ := tyl_of _ _ _ (rsf_at ws ρ w hf ew)
      have ea : a ρ = akf (ls_al (al (fx (J (r + 7)) m) (nwc F r) 6) (1 + 0) w.1) := by
        rw [← ha]
        unfold ak
        rw [acR_some ew]
      have hb1 := hbs (ρ + 1) (by omega)
      rw [bgs_s] at hb1
      have hh1 : F (r + 25) ρ = (i : Int) := x1
      refine s_Asks_collect_36 ⟨k0, am_nm_k ((congrFun (hfr r (by omega)) 3).trans h3) ?_⟩
      rintro _ rfl _ _
      refine ⟨fun h => absurd h (by omega), fun _ => ⟨(am_kk hB rfl), 38, (am_rf hB rfl), (am_kk hB rfl), am_nm_k hA.2.1 ?_⟩⟩
      rintro _ rfl _ _
      refine ⟨_, by decide, (am_kk hB rfl), ⟨by omega, by omega⟩, k0, r + 25, am_rq (i := 0) hB hr rfl rfl, _, am_kq (i := 25) hB hr (by decide) rfl, ⟨by omega, by omega⟩, ?_⟩
      show am_nm (am_u I 38 ρ (bgs a ρ : Int) (r + 25) ρ) _
      refine am_nm_k ((am_u_ne (by omega)).trans ((congrFun (hfr (r + 25) (by omega)) ρ).trans hh1)) ?_
      rintro _ rfl _ _
      refine ⟨(am_kk hB rfl), e_Asks_collectList ?_⟩
      show am_WP (d + 15) (82, 6, [.inr (.inl 34), .inr (.inl r), .inl (ρ : Int), .inl (i : Int), .inl 1, .inl (i : Int), .inl 0], [], (0, 0), n0, K, am_u I 38 ρ (bgs a ρ : Int), J, R) (fun v8 s9 => v8 = none ∧ am_WP (d + 16) (79, 67, [.inr (.inl 34), .inr (.inl r), .inl (ρ : Int)], [], (0, 0), s9) Q)
      have fI : xqa_fr F (am_u I 38 ρ (bgs a ρ : Int)) := fun x hx => by rw [am_u_row (by omega)]; exact hfr x hx
      have aI : xaC (fun ρ' => if ρ' < ρ then a ρ' else []) (fun ρ' => bgs a (min ρ' ρ)) ns (bgs a ρ) (am_u I 38 ρ (bgs a ρ : Int)) := xaC_fr hA (fun x _ _ h => am_u_row h)
      have bI : ∀ ρ' : Nat, ρ' ≤ ρ → am_u I 38 ρ (bgs a ρ : Int) 38 ρ' = (bgs a ρ' : Int) := by
        intro ρ' h'
        rw [am_u_at]
        by_cases e : ρ' = ρ
        · rw [if_pos e, e]
        · rw [if_neg e]; exact h38 ρ' (by omega) h'
      revert fI aI bI
      generalize am_u I 38 ρ (bgs a ρ : Int) = I1
      intro fI aI bI
      -- the row's own collection, over the state as it is
      have vE : rE I1 aT W r s N m wd := by
        have hE' := hE
        unfold rE at hE' ⊢
        rw [fI (r + 9) (by omega), fI (r + 2) (by omega), fI (r + 5) (by omega), fI (r + 6) (by omega), fI (r + 12) (by omega), fI (r + 27) (by omega)]
        exact hE'
      have nwe : nwc I1 r = nwc F r := by
        funext c
        unfold nwc
        rw [fI (r + 2) (by omega), fI (r + 5) (by omega)]
      have pt : ls_sz (tm_sz 6) w.1 = rw_sz w := rfl
      have hne : w.1.isEmpty = false := by
        cases hw1 : w.1 with
        | nil => exact absurd hw1 hwok.1
        | cons _ _ => rfl
      have h0 : (if ρ < ρ then a ρ else []) = ([] : List (Nat × Int)) := if_neg (Nat.lt_irrefl _)
      have col := xq_list (n0 := n0) (ρ := ρ) 6 hB hr (xq_all hB hr (by omega) vE 6) w.1 i 1 0 (d + 15) W (fun ρ' => if ρ' < ρ then a ρ' else []) (fun ρ' => bgs a (min ρ' ρ)) ns (bgs a ρ) I1 (fun v8 s9 => v8 = none ∧ am_WP (d + 16) (79, 67, [.inr (.inl 34), .inr (.inl r), .inl (ρ : Int)], [], (0, 0), s9) Q) (i : Int) (by omega) xq_refl (ft_HL_frame (I' := I1) x3 (fun x j a1 a2 _ _ => by rw [fI x (by omega)]) (fun _ _ _ => rfl)) (ft_GL_fr w.1 i g1 (fun j _ _ => by rw [fI (r + 15 + 7) (by omega)])) hwok.2.2 (by omega) (by rw [fI (r + 5) (by omega), fI (r + 6) (by omega)]; exact t1) (by omega) aI (by show bgs a (min ρ ρ) + (if ρ < ρ then a ρ else []).length = bgs a ρ; rw [h0, Nat.min_self]; rfl)
      rw [nwe, ← ea, hne] at col
      refine col ?_ (by omega) (by decide) (fun ns2 I2 f2 A2 => ⟨rfl, ?_⟩)
      · show cns ((if ρ < ρ then a ρ else []) ++ a ρ)
        rw [h0]; exact hcns ρ
      · have eaup : aup (fun ρ' => if ρ' < ρ then a ρ' else []) ρ (a ρ) = fun ρ' => if ρ' < ρ + 1 then a ρ' else [] := by
          funext ρ'
          by_cases e : ρ' = ρ
          · rw [e, aup_eq, h0, if_pos (by omega)]; rfl
          · rw [aup_ne e]
            by_cases e2 : ρ' < ρ
            · rw [if_pos e2, if_pos (by omega)]
            · rw [if_neg e2, if_neg (by omega)]
        rw [eaup, ← bgs_s] at A2
        refine s_Asks_collect_67 ⟨(am_kk hB rfl), 38, (am_rf hB rfl), am_ar_i (by omega) (by omega) ⟨(am_kk hB rfl), am_nm_k A2.2.1 ?_⟩⟩
        rintro _ rfl _ _
        refine ⟨_, by decide, (am_kk hB rfl), ⟨by omega, by omega⟩, am_ar_i (by omega) (by omega) ?_⟩
        refine ih (ρ + 1) (i + rw_sz w) _ ns2 (by omega) hd2 x4 g2 (by omega) (fun x hx => ?_) (xaC_bg (xaC_fr A2 (fun x _ _ h => am_u_row h)) (fun ρ' h' => ?_)) (fun ρ' _ h' => ?_)
        · rw [am_u_row (by omega), f2 x (by omega)]; exact fI x hx
        · by_cases e : ρ' < ρ + 1
          · left
            show bgs a (min ρ' (ρ + 1)) = bgs a (min ρ' ρ)
            rw [Nat.min_eq_left (by omega), Nat.min_eq_left (by omega)]
          · right
            refine ⟨if_neg e, ?_⟩
            show bgs a (min ρ' (ρ + 1)) ≤ bgs a (ρ + 1)
            rw [Nat.min_eq_right (by omega)]; exact Nat.le_refl _
        · show am_u I2 38 (ρ + 1) (bgs a (ρ + 1) : Int) 38 ρ' = _
          rw [am_u_at]
          by_cases e : ρ' = ρ + 1
          · rw [if_pos e, e]
          · rw [if_neg e, congrFun (f2 38 (by omega)) ρ']
            exact bI ρ' (by omega)
  have clear : ∀ (u x : Nat) (I : Nat → Nat → Int), x + u = 720 → xqa_fr F I → I 34 0 = 0 → I 34 1 = 0 → (∀ j : Nat, j < x → I 39 j = -1) → am_WP (d + 16) (79, 12, [.inr (.inl 34), .inr (.inl r), .inl (x : Int)], [], (0, 0), n0, K, I, J, R) Q := by
    intro u
    induction u with
    | zero =>
      intro x I hu hfr i0 i1 h39
      refine s_Asks_collect_12 ⟨(am_kk hB rfl), 39, (am_rf hB rfl), _, _, (am_kk hB rfl), Or.inr ⟨by decide, by decide⟩, by decide, fun _ => ?_, fun h => absurd h (by omega)⟩
      refine loop ws 0 0 I 0 (Nat.zero_add _) rfl hx hG (by omega) hfr ⟨i0, i1, Nat.le_refl _, Nat.zero_le _, fun i hi => absurd hi (Nat.not_lt_zero i), fun i j hi => absurd hi (Nat.not_lt_zero i), fun ρ hρ => ⟨?_, ?_⟩, fun ρ i h1 h2 => ⟨fun h => absurd h (Nat.not_lt_zero i), fun _ => h39 _ (by omega)⟩⟩ (fun ρ' h => absurd h (Nat.lt_irrefl 0))
      · show bgs a (min ρ 0) + (if ρ < 0 then a ρ else []).length ≤ bgs a 0
        rw [if_neg (Nat.not_lt_zero ρ), Nat.min_zero]
        exact Nat.le_refl _
      · show xal I 0 (bgs a (min ρ 0)) (if ρ < 0 then a ρ else [])
        rw [if_neg (Nat.not_lt_zero ρ)]
        exact trivial
    | succ u ih =>
      intro x I hu hfr i0 i1 h39
      refine s_Asks_collect_12 ⟨(am_kk hB rfl), 39, (am_rf hB rfl), _, _, (am_kk hB rfl), Or.inr ⟨by decide, by decide⟩, by decide, fun h => absurd h (by omega), fun _ => ⟨(am_kk hB rfl), 39, (am_rf hB rfl), _, by decide, (am_kk hB rfl), ⟨by omega, by omega⟩, am_ar_i (by omega) (by omega) (ih (x + 1) _ (by omega) (fun y hy => ?_) ((am_u_ne (by decide)).trans i0) ((am_u_ne (by decide)).trans i1) (fun j hj => ?_))⟩⟩
      · rw [am_u_row (by omega)]; exact hfr y hy
      · show am_u I 39 x (-1) 39 j = -1
        rw [am_u_at]
        by_cases e : j = x
        · rw [if_pos e]
        · rw [if_neg e]; exact h39 j (by omega)
  refine e_Asks_collect ⟨⟨by decide, (am_kk hB rfl)⟩, ⟨by decide, (am_kk hB rfl)⟩, clear 720 0 _ (Nat.zero_add _) (fun x hx => ?_) ((am_u_kn (by decide)).trans am_u_kk) am_u_kk (fun j hj => absurd hj (Nat.not_lt_zero j))⟩
  rw [am_u_row (by omega), am_u_row (by omega)]
end XCO
