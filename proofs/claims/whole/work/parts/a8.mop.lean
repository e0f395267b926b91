/-! SEARCH: the reference's calls -/
section ARG
variable {F : Nat → Nat → Int} {aT W : Nat → Int} {r s N m wd : Nat} {g : Nat → Int}
theorem al_rgl {n bd : Nat} (hX : ∀ (p : Nat) (w : Int) (t : tm n), (p + 2) * 4 ^ n ≤ bd → tm_ok n t → tf (fx g m) (F (r + 5)) (F (r + 6)) aT n w t = none → ∀ x ∈ al (fx g m) (nwc F r) n p t, x.1 + 2 ≤ bd) : ∀ (ts : List (tm n)) (p : Nat) (Wt : Nat → Int), (p + ts.length + 1) * 4 ^ n ≤ bd → (∀ t ∈ ts, tm_ok n t) → tyl (tf (fx g m) (F (r + 5)) (F (r + 6)) aT n) ts Wt → ∀ x ∈ ls_al (al (fx g m) (nwc F r) n) p ts, x.1 + 2 ≤ bd := by
  intro ts
  induction ts with
  | nil => intro p Wt _ _ _ x hx; exact absurd hx (by simp [ls_al])
  | cons t ts ih =>
    intro p Wt hb ho ht x hx
    have hb : (p + (ts.length + 1) + 1) * 4 ^ n ≤ bd := hb
    have hx : x ∈ al (fx g m) (nwc F r) n p t ++ ls_al (al (fx g m) (nwc F r) n) (p + 1) ts := hx
    rcases List.mem_append.mp hx with q | q
    · exact hX p _ t (Nat.le_trans (Nat.mul_le_mul_right _ (by omega)) hb) (ho t List.mem_cons_self) ht.1 x q
    · exact ih (p + 1) _ (by rw [show p + 1 + ts.length + 1 = p + (ts.length + 1) + 1 by omega]; exact hb) (fun k hk => ho k (List.mem_cons_of_mem _ hk)) ht.2 x q
theorem al_rg (hE : rE F aT W r s N m wd) : ∀ (n bd p : Nat) (w : Int) (t : tm n), (p + 2) * 4 ^ n ≤ bd → tm_ok n t → tf (fx g m) (F (r + 5)) (F (r + 6)) aT n w t = none → ∀ x ∈ al (fx g m) (nwc F r) n p t, x.1 + 2 ≤ bd := by
  intro n
  induction n with
  | zero => intro bd p w t; exact t.elim
  | succ n ih =>
    intro bd p w t hb ho hf x hx
    have e4 : 4 ^ (n + 1) = 4 * 4 ^ n := by rw [Nat.pow_succ]; omega
    have one4 : 1 ≤ 4 ^ n := Nat.one_le_pow _ _ (by decide)
    have hb1 : (p + 2) * 4 ^ n ≤ bd := by
      rw [e4] at hb
      have : (p + 2) * 4 ^ n ≤ (p + 2) * (4 * 4 ^ n) := Nat.mul_le_mul_left _ (by omega)
      omega
    have hb2 : (4 * p + 1 + 3 + 1) * 4 ^ n ≤ bd := by
      rw [e4] at hb
      have : (4 * p + 1 + 3 + 1) * 4 ^ n ≤ (4 * (p + 2)) * 4 ^ n := Nat.mul_le_mul_right _ (by omega)
      have e : (4 * (p + 2)) * 4 ^ n = (p + 2) * (4 * 4 ^ n) := by
        rw [Nat.mul_comm 4 (p + 2), Nat.mul_assoc]
      omega
    have hb3 : p + 2 ≤ bd := by
      have := Nat.mul_le_mul_left (p + 2) one4
      omega
    rw [al_u] at hx
    by_cases k4 : (tm_l t).1 = 4
    · rw [if_neg (by omega), if_neg (by omega), if_pos k4] at hx
      have : x = (p, 100 + (tm_l t).2.2.2.2.2) := by simpa using hx
      rw [this]; exact hb3
    · by_cases k56 : (tm_l t).1 = 5 ∨ (tm_l t).1 = 6
      · obtain ⟨c, T, d1, d2, d3, d4, d5, d6, d7, d8, d9⟩ := tcon hE ho hf k56
        obtain ⟨-, ar0, ar3, -⟩ := hE.2.2.2.2.2.1 c d1
        rw [if_neg (by omega), if_neg (by omega), if_neg k4, if_pos k56, d3] at hx
        by_cases hn : nwc F r (c : Int) = true
        · rw [if_pos hn] at hx
          have hnew : F (r + 2) T = 1 := by
            unfold nwc at hn
            rw [Int.toNat_natCast, d4, Int.toNat_natCast] at hn
            simpa using hn
          have := d9 hnew
          exact al_rgl (ih bd) (tm_k t) p _ (Nat.le_trans (Nat.mul_le_mul_right _ (by omega)) hb1) d8 d6 x hx
        · rw [if_neg hn] at hx
          rcases List.mem_cons.mp hx with q | q
          · rw [q]; exact hb3
          · exact al_rgl (ih bd) (tm_k t) (4 * p + 1) _ (Nat.le_trans (Nat.mul_le_mul_right _ (by omega)) hb2) d8 d6 x q
      · obtain ⟨o1, o2, o3, o4⟩ := ho
        unfold tf at hf
        rw [if_neg k4, if_neg k56] at hf
        rcases o4 with ⟨q1, q2⟩ | ⟨q1, q2, -⟩ | ⟨q1, k, q2, q3⟩ | ⟨q1, q2, q3⟩
        · rw [if_neg (by omega), if_neg (by omega), if_neg k4, if_neg k56] at hx
          exact absurd hx (by simp)
        · omega
        · rw [q2] at hf
          have kid := ih bd p w k hb1 q3 hf
          have e1 : ls_al (al (fx g m) (nwc F r) n) p [k] = al (fx g m) (nwc F r) n p k ++ [] := rfl
          rw [q2, e1, List.append_nil] at hx
          rcases q1 with q1 | q1 | q1
          · rw [if_neg (by omega), if_neg (by omega), if_neg k4, if_neg k56] at hx
            exact absurd hx (by simp)
          · rw [if_pos q1] at hx
            rcases List.mem_cons.mp hx with q | q
            · rw [q]; exact hb3
            · exact kid x q
          · rw [if_neg (by omega), if_pos q1] at hx
            exact kid x hx
        · omega
theorem acR_rg {ws : List rw0} (hE : rE F aT W r s N m wd) (ho : ∀ w ∈ ws, rw_ok w) (hf : rsf (fx g m) (F (r + 5)) (F (r + 6)) aT W wd ws = none) (ρ : Nat) : (∀ x ∈ acR (fx g m) (nwc F r) ws ρ, x.1 < 65536) ∧ (acR (fx g m) (nwc F r) ws ρ).length ≤ rs_sz ws := by
  rcases Nat.lt_or_ge ρ ws.length with h | h
  · have hw : ws[ρ]? = some ws[ρ] := List.getElem?_eq_getElem h
    obtain ⟨t1, t2⟩ := tyl_of _ _ _ (rsf_at ws ρ _ hf hw)
    have wd4 := hE.2.2.2.1
    rw [acR_some hw]
    refine ⟨fun x hx => ?_, ?_⟩
    · have := al_rgl (bd := 24576) (al_rg (g := g) hE 6 24576) ws[ρ].1 1 _ (Nat.le_trans (Nat.mul_le_mul_right _ (show 1 + ws[ρ].1.length + 1 ≤ 6 by omega)) (by decide)) (ho _ (List.getElem_mem h)).2.2 t1 x hx
      omega
    · have h1 : (ls_al (al (fx g m) (nwc F r) 6) 1 ws[ρ].1).length ≤ rw_sz ws[ρ] := ls_al_len _ _
      have h2 : ∀ (us : List rw0) (w : rw0), w ∈ us → rw_sz w ≤ rs_sz us := by
        intro us
        induction us with
        | nil => intro w hw; exact absurd hw (by simp)
        | cons u us ih =>
          intro w hw
          have e : rs_sz (u :: us) = rw_sz u + rs_sz us := rfl
          rcases List.mem_cons.mp hw with q | q
          · rw [q, e]; omega
          · have := ih w q; omega
      exact Nat.le_trans h1 (h2 ws _ (List.getElem_mem h))
  · rw [acR_none h]
    exact ⟨fun x hx => absurd hx (by simp), Nat.zero_le _⟩
end ARG
theorem mr_rows_at {cof : Int → Int} {nwf : Int → Bool} {s : Nat} {I : Nat → Nat → Int} : ∀ (ws : List rw0) (k : Nat), mr_rows cof nwf s I k ws → ∀ ρ : Nat, ρ < ws.length → acS I (12 * s + (k + ρ)) (acR cof nwf ws ρ) ∧ I 118 (12 * s + (k + ρ)) = xt_v (rsg ws ρ) := by
  intro ws
  induction ws with
  | nil => intro k _ ρ h; exact absurd h (Nat.not_lt_zero ρ)
  | cons w ws ih =>
    intro k h ρ hρ
    cases ρ with
    | zero => exact ⟨h.2.1, h.1⟩
    | succ ρ =>
      have := ih (k + 1) h.2.2 ρ (by have : ρ + 1 < ws.length + 1 := hρ; omega)
      rw [show k + (ρ + 1) = k + 1 + ρ by omega]
      exact this
/-- the reference's tables of a set -/
def Md (F G : Nat → Nat → Int) (r s : Nat) (ws : List rw0) (N m wd : Nat) (nmL : Nat → List Int) (I J : Nat → Nat → Int) : Prop := mtab F G r s N m wd I J ∧ mr_rows (fx (G (r + 7)) m) (nwc F r) s I 0 ws ∧ I 116 s = (ws.length : Int) ∧ ∀ c : Nat, c < m → J 110 (36 * s + c) = wl_6 (nmL c)
theorem mr_rows_fr {cof : Int → Int} {nwf : Int → Bool} {s : Nat} {I I' : Nat → Nat → Int} (hf : ∀ a j : Nat, 118 ≤ a → a ≤ 121 → I' a j = I a j) : ∀ (ws : List rw0) (k : Nat), mr_rows cof nwf s I k ws → mr_rows cof nwf s I' k ws := by
  intro ws
  induction ws with
  | nil => intro k _; exact trivial
  | cons w ws ih =>
    intro k h
    exact ⟨(hf _ _ (by decide) (by decide)).trans h.1, acS_fr h.2.1 (fun a j a1 a2 => hf a j (by omega) a2), ih (k + 1) h.2.2⟩
theorem Md_fr {F G : Nat → Nat → Int} {r s N m wd : Nat} {ws : List rw0} {nmL : Nat → List Int} {I I' J J' : Nat → Nat → Int} (hf : ∀ a j : Nat, 107 ≤ a → a ≤ 121 → I' a j = I a j) (hj : J' 110 = J 110) (h : Md F G r s ws N m wd nmL I J) : Md F G r s ws N m wd nmL I' J' := by
  obtain ⟨⟨h1, h2, h3, h4, h5, h6⟩, h7, h8, h9⟩ := h
  refine ⟨⟨(hf _ _ (by omega) (by omega)).trans h1, (hf _ _ (by omega) (by omega)).trans h2, (hf _ _ (by omega) (by omega)).trans h3, fun z hz => (hf _ _ (by omega) (by omega)).trans (h4 z hz), fun l hl => (hf _ _ (by omega) (by omega)).trans (h5 l hl), fun c hc => ?_⟩, mr_rows_fr (fun a j a1 a2 => hf a j (by omega) a2) ws 0 h7, (hf _ _ (by omega) (by omega)).trans h8, by rw [hj]; exact h9⟩
  obtain ⟨c1, c2, c3, c4⟩ := h6 c hc
  exact ⟨(hf _ _ (by omega) (by omega)).trans c1, (hf _ _ (by omega) (by omega)).trans c2, fun z z1 z2 => (hf _ _ (by omega) (by omega)).trans (c3 z z1 z2), by rw [hj]; exact c4⟩
theorem cE_M {F G : Nat → Nat → Int} {aT W : Nat → Int} {r s N m wd : Nat} {I J : Nat → Nat → Int} (hE : rE F aT W r s N m wd) (hTy : tyS F r N m) (ht : mtab F G r s N m wd I J) : cE F r s N m I := by
  obtain ⟨Ic, c1, c2, -, -, c5, c6, c7⟩ := cE_of hE hTy
  obtain ⟨h1, h2, h3, h4, h5, h6⟩ := ht
  refine ⟨c1, c2, h2, fun c hc => ?_, c5, c6, c7⟩
  obtain ⟨⟨T, hT, hcT, -⟩, -⟩ := hE.2.2.2.2.2.1 c hc
  refine ⟨T, hT, hcT, ?_⟩
  have := (h6 c hc).1
  rw [hcT, Int.toNat_natCast] at this
  exact this
section MOP
variable {d n0 : Nat} {C : Nat → am_K} {F G I J : Nat → Nat → Int} {R : Nat → Nat → Option Nat} {Q : am_Q} {r s N m wd : Nat} {ws : List rw0} {nmL : Nat → List Int}
theorem sE_of {ah : Nat} {K : Nat → Int} (h : Sx F G r s ws N m wd nmL) (hM : Md F G r s ws N m wd nmL I J) (h14 : I 101 14 = (s : Int)) (ha : ah ≤ ws.length) (h50 : I 101 50 = (ah : Int)) (hK : ∀ q : Nat, q < 65536 → I 128 q = K q) : sE (acR (fx (G (r + 7)) m) (nwc F r) ws) (rsg ws) s ws.length ah K I := by
  obtain ⟨hr, hE, hTy, w1, l0, l12, h60, ho, hf, -⟩ := h
  refine ⟨h14, hE.1, l12, ha, h50, fun ρ hρ => ?_, hK⟩
  obtain ⟨m1, m2⟩ := mr_rows_at ws 0 hM.2.1 ρ hρ
  rw [Nat.zero_add] at m1 m2
  obtain ⟨b1, b2⟩ := acR_rg (g := G (r + 7)) hE ho hf ρ
  exact ⟨m1, by omega, b1, m2⟩
def mf_fr (I I' : Nat → Nat → Int) : Prop := ∀ a j : Nat, ¬ (a = 101 ∧ (j = 43 ∨ j = 47 ∨ j = 50 ∨ j = 54 ∨ j = 57)) → a ≠ 128 → ¬ (130 ≤ a ∧ a ≤ 137) → I' a j = I a j
theorem m_findExample (hB : am_B C R) (h : Sx F G r s ws N m wd nmL) (hM : Md F G r s ws N m wd nmL I J) (h14 : I 101 14 = (s : Int)) (post : ∀ I' : Nat → Nat → Int, mf_fr I I' → (¬ Sem (Sa F G r m ws) ws.length (twf F r) (vdf m) (Sg (rsg ws) ws.length) (fun _ => -1) → I' 101 43 = 0) → (Sem (Sa F G r m ws) ws.length (twf F r) (vdf m) (Sg (rsg ws) ws.length) (fun _ => -1) → I' 101 43 = 1 ∧ ∃ K' : Nat → Int, Fst (Sa F G r m ws) ws.length (twf F r) (vdf m) (Sg (rsg ws) ws.length) 60 (fun _ => -1) K' ∧ ml (ext (wtx K' F (F (r + 8)) r nmL 6) (F (r + 26)) wd 0) I') → Q none (n0, C, I', J, R)) : am_WP (d + 4) (am_entry 69 [.inr (.inl 101)] (n0, C, I, J, R)) Q := by
  obtain ⟨a1, a2, a3, a4, a5, a6, a7, a8⟩ := Sx_ok h
  have h0 := h
  obtain ⟨hr, hE, hTy, w1, l0, l12, h60, ho, hf, hn, hn8, g2, g3, -⟩ := h
  have s2 := hE.1
  refine e_M_findExample ⟨(am_kk hB rfl), m_openAll hB (fun I1 f1 u1 => ⟨rfl, ?_⟩)⟩
  refine s_M_findExample_4 ⟨(am_kk hB rfl), 116, (am_rf hB rfl), (am_kk hB rfl), am_nm_k ((f1 _ _ (by decide)).trans h14) ?_⟩
  rintro _ rfl _ _
  refine ⟨_, (am_kk hB rfl), ⟨by omega, by omega⟩, am_nm_k ((f1 _ _ (by decide)).trans hM.2.2.1) ?_⟩
  rintro _ rfl _ _
  have v1 : ∀ a j : Nat, ¬ (a = 101 ∧ j = 50) → a ≠ 128 → am_u I1 101 50 (ws.length : Int) a j = I a j := fun a j g1 g2 => (am_u_off g1).trans (f1 a j g2)
  have v2 : am_u I1 101 50 (ws.length : Int) 101 50 = (ws.length : Int) := am_u_kk
  have v3 : ∀ q : Nat, q < 65536 → am_u I1 101 50 (ws.length : Int) 128 q = -1 := fun q hq => (am_u_ne (by decide)).trans (u1 q hq)
  refine ⟨⟨by decide, (am_kk hB rfl)⟩, (am_kk hB rfl), ?_⟩
  generalize am_u I1 101 50 (ws.length : Int) = I2 at v1 v2 v3 ⊢
  clear f1 u1
  have hM2 : Md F G r s ws N m wd nmL I2 J := Md_fr (fun a j a1 a2 => v1 a j (by omega) (by omega)) rfl hM
  have sE2 := sE_of (K := fun _ => -1) h0 hM2 ((v1 _ _ (by decide) (by decide)).trans h14) (Nat.le_refl _) v2 v3
  have hC2 := cE_M hE hTy hM2.1
  refine m_search hB a1 a2 a3 sE2 hC2 clo_0 typ_0 (a8 _) (by decide) (fun I3 K' f3 k3 hSem hF => ⟨_, rfl, ?_⟩) (fun I3 f3 hno => ⟨_, rfl, ?_⟩)
  · have hj := Fst_jst a1 hC2 a3 a2 l12 60 _ K' hF clo_0 typ_0 jst_0
    obtain ⟨cA, cl⟩ := cols_all (nmL := nmL) hE hTy s2 hC2 ho hf h60 hj (fun c => (hn8 c).2)
    refine s_M_findExample_22 ⟨⟨by decide, (am_kk hB rfl)⟩, Or.inr rfl, ⟨by decide, (am_kk hB rfl)⟩, ?_⟩
    have y1 : ∀ a j : Nat, ¬ (a = 101 ∧ (j = 43 ∨ j = 47 ∨ j = 50 ∨ j = 54)) → a ≠ 128 → ¬ (130 ≤ a ∧ a ≤ 137) → am_u (am_u I3 101 43 1) 101 54 0 a j = I a j := fun a j g1 g2 g3 => by
      rw [am_u_off (by omega), am_u_off (by omega), f3 a j (by unfold sr_ch; omega)]
      exact v1 a j (by omega) g2
    have y2 : am_u (am_u I3 101 43 1) 101 54 0 101 43 = 1 := (am_u_kn (by decide)).trans am_u_kk
    have y3 : am_u (am_u I3 101 43 1) 101 54 0 101 54 = 0 := am_u_kk
    have y4 : ∀ q : Nat, q < 65536 → am_u (am_u I3 101 43 1) 101 54 0 128 q = K' q := fun q hq => (am_u_ne (by decide)).trans ((am_u_ne (by decide)).trans (k3 q hq))
    generalize am_u (am_u I3 101 43 1) 101 54 0 = I4 at y1 y2 y3 y4 ⊢
    have hM4 : Md F G r s ws N m wd nmL I4 J := Md_fr (fun a j a1 a2 => y1 a j (by omega) (by omega) (by omega)) rfl hM
    have hMW : mW I4 J F K' (F (r + 8)) (F (r + 26)) nmL r s N m wd := by
      refine ⟨(y1 _ _ (by omega) (by omega) (by omega)).trans h14, hE, hTy, cE_M hE hTy hM4.1, y4, hM4.1.2.2.2.2.1, fun c hc => ?_, fun c => (hn8 c).1⟩
      obtain ⟨c1, c2, c3, c4⟩ := hM4.1.2.2.2.2.2 c hc
      exact ⟨c2, c3, (hn c hc).1, hM4.2.2.2 c hc⟩
    refine m_columns hB hMW hM4.1.2.2.1 y2 (fun z hz => ⟨F (r + 27) z, hM4.1.2.2.2.1 z hz, ?_⟩) cA ⟨y3, trivial⟩ (by omega) (fun I5 f5 l5 => ?_)
    · obtain ⟨b1, b2, b3⟩ := hE.2.2.2.2.2.2 z hz
      exact ⟨b1.1, b1.2, b2, b3⟩
    · refine post I5 (fun a j g1 g2 g3 => ?_) (fun h => absurd hSem h) (fun _ => ⟨?_, K', hF, l5⟩)
      · rw [f5 a j (by omega) (by omega) (by omega) (by omega)]; exact y1 a j (by omega) g2 g3
      · rw [f5 101 43 (by omega) (by omega) (by omega) (by omega)]; exact y2
  · refine s_M_findExample_22 ⟨⟨by decide, (am_kk hB rfl)⟩, Or.inl rfl, ⟨by decide, (am_kk hB rfl)⟩, ?_⟩
    have y1 : ∀ a j : Nat, ¬ (a = 101 ∧ (j = 43 ∨ j = 47 ∨ j = 50 ∨ j = 54)) → a ≠ 128 → ¬ (130 ≤ a ∧ a ≤ 137) → am_u (am_u I3 101 43 0) 101 54 0 a j = I a j := fun a j g1 g2 g3 => by
      rw [am_u_off (by omega), am_u_off (by omega), f3 a j (by unfold sr_ch; omega)]
      exact v1 a j (by omega) g2
    have y2 : am_u (am_u I3 101 43 0) 101 54 0 101 43 = 0 := (am_u_kn (by decide)).trans am_u_kk
    generalize am_u (am_u I3 101 43 0) 101 54 0 = I4 at y1 y2 ⊢
    refine s_M_findExample_32 ⟨(am_kk hB rfl), 114, (am_rf hB rfl), (am_kk hB rfl), am_nm_k ((y1 _ _ (by omega) (by omega) (by omega)).trans h14) ?_⟩
    rintro _ rfl _ _
    refine ⟨_, (am_kk hB rfl), ⟨by omega, by omega⟩, am_nm_k ((y1 _ _ (by omega) (by omega) (by omega)).trans hM.1.2.2.1) ?_⟩
    rintro _ rfl _ _
    have fin : Q none (n0, C, I4, J, R) := post I4 (fun a j g1 g2 g3 => y1 a j (by omega) g2 g3) (fun _ => y2) (fun h => absurd h hno)
    refine ⟨fun _ => fin, fun _ => ⟨(am_kk hB rfl), am_nm_k y2 ?_⟩⟩
    rintro _ rfl _ _
    exact ⟨fun _ => fin, fun h => absurd rfl h⟩
def mn_fr (ρ : Nat) (I I' : Nat → Nat → Int) : Prop := ∀ a j : Nat, ¬ (a = 101 ∧ (j = 47 ∨ j = 50)) → a ≠ 128 → ¬ (a = 130 ∨ a = 131 ∨ a = 133 ∨ a = 134) → ¬ (a = 129 ∧ j = ρ) → I' a j = I a j
theorem m_never {ρ : Nat} (hB : am_B C R) (h : Sx F G r s ws N m wd nmL) (hM : Md F G r s ws N m wd nmL I J) (h14 : I 101 14 = (s : Int)) (hρ : ρ < ws.length) (h129 : I 129 ρ = -1) (yes : ∀ I' : Nat → Nat → Int, mn_fr ρ I I' → I' 129 ρ = 0 → Sem (Sa F G r m ws) ws.length (twf F r) (vdf m) (Sg (rsg ws) ρ) (kfl (Sa F G r m ws ρ) (fun _ => -1)) → Q (some (.inl 0)) (n0, C, I', J, R)) (no : ∀ I' : Nat → Nat → Int, mn_fr ρ I I' → I' 129 ρ = 1 → ¬ Sem (Sa F G r m ws) ws.length (twf F r) (vdf m) (Sg (rsg ws) ρ) (kfl (Sa F G r m ws ρ) (fun _ => -1)) → Q (some (.inl 1)) (n0, C, I', J, R)) : am_WP (d + 4) (am_entry 77 [.inr (.inl 101), .inl (ρ : Int)] (n0, C, I, J, R)) Q := by
  obtain ⟨a1, a2, a3, a4, a5, a6, a7, a8⟩ := Sx_ok h
  have h0 := h
  obtain ⟨hr, hE, hTy, w1, l0, l12, h60, ho, hf, hn, hn8, g2, g3, -⟩ := h
  have s2 := hE.1
  obtain ⟨m1, -⟩ := mr_rows_at ws 0 hM.2.1 ρ hρ
  rw [Nat.zero_add] at m1
  obtain ⟨b1, b2⟩ := acR_rg (g := G (r + 7)) hE ho hf ρ
  have ixr : (0 : Int) ≤ ((12 * s + ρ : Nat) : Int) ∧ ((12 * s + ρ : Nat) : Int) < ((24 : Nat) : Int) := ⟨by omega, by omega⟩
  have eak : Sa F G r m ws ρ = akf (acR (fx (G (r + 7)) m) (nwc F r) ws ρ) := rfl
  have b2 : (acR (fx (G (r + 7)) m) (nwc F r) ws ρ).length ≤ 60 := by omega
  generalize hA : acR (fx (G (r + 7)) m) (nwc F r) ws ρ = A at m1 b1 b2 eak
  have loop : ∀ (B : List (Nat × Int)) (k : Nat) (K : Nat → Int) (I1 : Nat → Nat → Int), k + B.length = A.length → lsa I (12 * s + ρ) k B → (∀ x ∈ B, x.1 < 65536) → (∀ a j : Nat, a ≠ 128 → I1 a j = I a j) → (∀ q : Nat, q < 65536 → I1 128 q = K q) → kfl (akf B) K = kfl (Sa F G r m ws ρ) (fun _ => -1) → am_WP (d + 4) (77, 58, [.inr (.inl 101), .inl (ρ : Int), .inl ((12 * s + ρ : Nat) : Int), .inl (k : Int)], [], (0, 0), n0, C, I1, J, R) Q := by
    intro B
    induction B with
    | nil =>
      intro k K I1 hk hL hp f1 k1 he
      have hk : k + 0 = A.length := hk
      have eK : K = kfl (Sa F G r m ws ρ) (fun _ => -1) := he
      obtain ⟨kc, kt⟩ := kfl_0 a1 hρ (a2 ρ hρ)
      rw [← eK] at kc kt yes no
      refine s_M_never_58 ⟨(am_kk hB rfl), 119, (am_rf hB rfl), _, (am_kk hB rfl), ixr, am_nm_k ((f1 _ _ (by decide)).trans m1.1) ?_⟩
      rintro _ rfl _ _
      refine ⟨fun _ => ⟨⟨by decide, (am_kk hB rfl)⟩, (am_kk hB rfl), 129, (am_rf hB rfl), (am_kk hB rfl), ?_⟩, fun h => absurd h (by omega)⟩
      have v1 : ∀ a j : Nat, ¬ (a = 101 ∧ j = 50) → a ≠ 128 → am_u I1 101 50 (ρ : Int) a j = I a j := fun a j g1 g2 => (am_u_off g1).trans (f1 a j g2)
      have v2 : am_u I1 101 50 (ρ : Int) 101 50 = (ρ : Int) := am_u_kk
      have v3 : ∀ q : Nat, q < 65536 → am_u I1 101 50 (ρ : Int) 128 q = K q := fun q hq => (am_u_ne (by decide)).trans (k1 q hq)
      generalize am_u I1 101 50 (ρ : Int) = I2 at v1 v2 v3 ⊢
      have hM2 : Md F G r s ws N m wd nmL I2 J := Md_fr (fun a j a1 a2 => v1 a j (by omega) (by omega)) rfl hM
      have sE2 := sE_of (K := K) h0 hM2 ((v1 _ _ (by decide) (by decide)).trans h14) (show ρ ≤ ws.length by omega) v2 v3
      have hC2 := cE_M hE hTy hM2.1
      have fr : ∀ (I3 : Nat → Nat → Int) (v : Int), sr_fr I2 I3 → mn_fr ρ I (am_u I3 129 ρ v) := fun I3 v f3 a j g1 g2 g3 g4 => by
        rw [am_u_off g4, f3 a j (by unfold sr_ch; omega)]
        exact v1 a j (by omega) g2
      refine m_search (f := 60) hB a1 a2 a3 sE2 hC2 kc kt (a8 _) (by decide) (fun I3 K' f3 k3 hSem hF => ⟨_, rfl, ?_⟩) (fun I3 f3 hno => ⟨_, rfl, ?_⟩)
      · refine s_M_never_133 ⟨fun h => absurd h (by decide), fun _ => s_M_never_141 ⟨_, by decide, (am_kk hB rfl), ⟨by omega, by omega⟩, (am_kk hB rfl), 129, (am_rf hB rfl), _, (am_kk hB rfl), ⟨by omega, by omega⟩, am_nm_k am_u_kk ?_⟩⟩
        rintro _ rfl _ _
        exact yes _ (fr I3 0 f3) am_u_kk hSem
      · refine s_M_never_133 ⟨fun _ => s_M_never_141 ⟨_, by decide, (am_kk hB rfl), ⟨by omega, by omega⟩, (am_kk hB rfl), 129, (am_rf hB rfl), _, (am_kk hB rfl), ⟨by omega, by omega⟩, am_nm_k am_u_kk ?_⟩, fun h => absurd rfl h⟩
        rintro _ rfl _ _
        exact no _ (fr I3 1 f3) am_u_kk hno
    | cons x B ih =>
      intro k K I1 hk hL hp f1 k1 he
      have hk : k + (B.length + 1) = A.length := hk
      have xp := hp x List.mem_cons_self
      have hp' : ∀ y ∈ B, y.1 < 65536 := fun y hy => hp y (List.mem_cons_of_mem _ hy)
      refine s_M_never_58 ⟨(am_kk hB rfl), 119, (am_rf hB rfl), _, (am_kk hB rfl), ixr, am_nm_k ((f1 _ _ (by decide)).trans m1.1) ?_⟩
      rintro _ rfl _ _
      refine ⟨fun h => absurd h (by omega), fun _ => ⟨(am_kk hB rfl), 121, (am_rf hB rfl), am_ar_i (by omega) (by omega) (am_ar_i (by omega) (by omega) ?_)⟩⟩
      rw [show (150 : Int) * ((12 * s + ρ : Nat) : Int) + (k : Int) = ((150 * (12 * s + ρ) + k : Nat) : Int) by omega]
      refine ⟨_, (am_kk hB rfl), ⟨by omega, by omega⟩, am_nm_k ((f1 _ _ (by decide)).trans hL.2.1) ?_⟩
      rintro _ rfl _ _
      refine ⟨fun w1 => am_ar_i (by omega) (by omega) (ih (k + 1) K I1 (by omega) hL.2.2 hp' f1 k1 (by rw [akf_look w1] at he; exact he)), fun w1 => ⟨(am_kk hB rfl), 128, (am_rf hB rfl), (am_kk hB rfl), 120, (am_rf hB rfl), am_ar_i (by omega) (by omega) (am_ar_i (by omega) (by omega) ?_)⟩⟩
      rw [show (150 : Int) * ((12 * s + ρ : Nat) : Int) + (k : Int) = ((150 * (12 * s + ρ) + k : Nat) : Int) by omega]
      refine ⟨_, (am_kk hB rfl), ⟨by omega, by omega⟩, am_nm_k ((f1 _ _ (by decide)).trans hL.1) ?_⟩
      rintro _ rfl _ _
      refine ⟨(am_kk hB rfl), 121, (am_rf hB rfl), am_ar_i (by omega) (by omega) (am_ar_i (by omega) (by omega) ?_)⟩
      rw [show (150 : Int) * ((12 * s + ρ : Nat) : Int) + (k : Int) = ((150 * (12 * s + ρ) + k : Nat) : Int) by omega]
      refine ⟨_, (am_kk hB rfl), ⟨by omega, by omega⟩, am_nm_k ((f1 _ _ (by decide)).trans hL.2.1) (fun z hz _ _ => ?_)⟩
      rw [hz]
      refine ⟨_, by decide, (am_kk hB rfl), ⟨by omega, by omega⟩, am_ar_i (by omega) (by omega) (ih (k + 1) (ku K x.1 x.2) _ (by omega) hL.2.2 hp' (fun a j ha => (am_u_ne ha).trans (f1 a j ha)) (fun q hq => ?_) (by rw [akf_ask w1] at he; exact he))⟩
      show am_u I1 128 x.1 x.2 128 q = _
      rw [am_u_at]
      by_cases e : q = x.1
      · rw [if_pos e, e, ku_eq]
      · rw [if_neg e, ku_ne e]; exact k1 q hq
  refine e_M_never ⟨(am_kk hB rfl), am_nm_k h14 ?_⟩
  rintro _ rfl _ _
  refine ⟨fun h => absurd h (by omega), fun _ => ⟨fun h => absurd h (by omega), fun _ => ⟨(am_kk hB rfl), 116, (am_rf hB rfl), (am_kk hB rfl), am_nm_k h14 ?_⟩⟩⟩
  rintro _ rfl _ _
  refine ⟨_, (am_kk hB rfl), ⟨by omega, by omega⟩, am_nm_k hM.2.2.1 ?_⟩
  rintro _ rfl _ _
  refine ⟨fun _ => ⟨(am_kk hB rfl), 129, (am_rf hB rfl), _, (am_kk hB rfl), ⟨by omega, by omega⟩, am_nm_k h129 ?_⟩, fun h => absurd h (by omega)⟩
  rintro _ rfl _ _
  refine ⟨fun _ => ⟨(am_kk hB rfl), m_openAll hB (fun I1 f1 u1 => ⟨rfl, ?_⟩)⟩, fun h => absurd h (by decide)⟩
  refine s_M_never_46 ⟨(am_kk hB rfl), am_nm_k ((f1 _ _ (by decide)).trans h14) ?_⟩
  rintro _ rfl _ _
  refine am_ar_i (by omega) (by omega) (am_ar_i (by omega) (by omega) ?_)
  rw [show (12 : Int) * (s : Int) + (ρ : Int) = ((12 * s + ρ : Nat) : Int) by omega]
  exact loop A 0 (fun _ => -1) I1 (Nat.zero_add _) m1.2 b1 f1 u1 (by rw [eak])
end MOP
