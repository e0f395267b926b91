/-! MEANING: the reference's values -/
theorem ft_sp_ok {kd pl nu nm : Nat → Int} {v : Bool} {c : Nat} (hR : ft_R kd nu c) (hP : ∀ k : Nat, k ≤ c → 0 ≤ pl k) (hk : ∀ k : Nat, k < c → kd k ≠ 0 ∧ kd k ≠ 1) (he : kd c = 0 ∨ kd c = 1) : ∀ (n i j : Nat) (t : tm n), i ≤ c → ft_sp kd pl nu nm v n i t j → tm_ok n t ∧ j ≤ c := by
  have lt : ∀ i : Nat, i ≤ c → kd i ≠ 0 → kd i ≠ 1 → i < c := by
    intro i h1 h2 h3
    rcases Nat.lt_or_ge i c with h | h
    · exact h
    · have e : i = c := by omega
      subst e
      rcases he with h | h
      · exact absurd h h2
      · exact absurd h h3
  have ls : ∀ n : Nat, (∀ (i j : Nat) (t : tm n), i ≤ c → ft_sp kd pl nu nm v n i t j → tm_ok n t ∧ j ≤ c) → ∀ (ts : List (tm n)) (i j : Nat), i ≤ c → ls_sp (ft_sp kd pl nu nm v n) i ts j → (∀ t ∈ ts, tm_ok n t) ∧ j ≤ c := by
    intro n h ts
    induction ts with
    | nil =>
      intro i j hi hs
      have e : i = j := hs
      subst e
      exact ⟨fun t ht => absurd ht (by simp), hi⟩
    | cons t ts ih =>
      intro i j hi hs
      obtain ⟨q, h1, h2⟩ := hs
      obtain ⟨a1, a2⟩ := h i q t hi h1
      obtain ⟨b1, b2⟩ := ih q j a2 h2
      refine ⟨fun u hu => ?_, b2⟩
      rcases List.mem_cons.mp hu with e | e
      · rw [e]; exact a1
      · exact b1 u e
  intro n
  induction n with
  | zero => intro i j t _ h; exact h.elim
  | succ n ih =>
    intro i j t hi h
    rcases h with ⟨k5, et, ej⟩ | ⟨k3, et, ej⟩ | ⟨k40, k3, ks, q, hne, hks, k41, et, ej⟩ | ⟨-, k63, et, ej⟩ | ⟨-, k126, t', hsp', et⟩ | ⟨-, k33, t', hsp', et⟩ | ⟨-, k4, k64, t', hsp', et⟩ | ⟨-, k4, n64, et, ej⟩ | ⟨-, k95, et, ej⟩
    · have l := lt i hi (by rw [k5]; decide) (by rw [k5]; decide)
      subst et
      have p0 := hP i hi
      exact ⟨⟨p0, p0, p0, Or.inr (Or.inl ⟨rfl, rfl, (hR i l).2 k5⟩)⟩, by omega⟩
    · have l := lt i hi (by rw [k3]; decide) (by rw [k3]; decide)
      subst et
      have p0 := hP i hi
      exact ⟨⟨p0, p0, p0, Or.inl ⟨Or.inr (Or.inl rfl), rfl⟩⟩, by omega⟩
    · have l := lt i hi (by rw [k40]; decide) (by rw [k40]; decide)
      have l1 := lt (i + 1) l (by rw [k3]; decide) (by rw [k3]; decide)
      obtain ⟨a1, a2⟩ := ls n ih ks (i + 2) q l1 hks
      have l2 := lt q a2 (by rw [k41]; decide) (by rw [k41]; decide)
      subst et
      exact ⟨⟨hP i hi, hP (i + 1) l, hP q a2, Or.inr (Or.inr (Or.inr ⟨rfl, hne, a1⟩))⟩, by omega⟩
    · have l := lt i hi (by rw [k63]; decide) (by rw [k63]; decide)
      subst et
      have p0 := hP i hi
      exact ⟨⟨p0, p0, p0, Or.inl ⟨Or.inr (Or.inr rfl), rfl⟩⟩, by omega⟩
    · have l := lt i hi (by rw [k126]; decide) (by rw [k126]; decide)
      obtain ⟨a1, a2⟩ := ih (i + 1) j t' l hsp'
      subst et
      have p0 := hP i hi
      exact ⟨⟨p0, p0, p0, Or.inr (Or.inr (Or.inl ⟨Or.inl rfl, t', rfl, a1⟩))⟩, a2⟩
    · have l := lt i hi (by rw [k33]; decide) (by rw [k33]; decide)
      obtain ⟨a1, a2⟩ := ih (i + 1) j t' l hsp'
      subst et
      have p0 := hP i hi
      exact ⟨⟨p0, p0, p0, Or.inr (Or.inr (Or.inl ⟨Or.inr (Or.inl rfl), t', rfl, a1⟩))⟩, a2⟩
    · have l := lt i hi (by rw [k4]; decide) (by rw [k4]; decide)
      have l1 := lt (i + 1) l (by rw [k64]; decide) (by rw [k64]; decide)
      obtain ⟨a1, a2⟩ := ih (i + 2) j t' l1 hsp'
      subst et
      have p0 := hP i hi
      exact ⟨⟨p0, p0, p0, Or.inr (Or.inr (Or.inl ⟨Or.inr (Or.inr rfl), t', rfl, a1⟩))⟩, a2⟩
    · have l := lt i hi (by rw [k4]; decide) (by rw [k4]; decide)
      subst et
      have p0 := hP i hi
      exact ⟨⟨p0, p0, p0, Or.inl ⟨Or.inl rfl, rfl⟩⟩, by omega⟩
    · have l := lt i hi (by rw [k95]; decide) (by rw [k95]; decide)
      subst et
      have p0 := hP i hi
      exact ⟨⟨p0, p0, p0, Or.inl ⟨Or.inl rfl, rfl⟩⟩, by omega⟩
/-- what values' meaning changes -/
def vf_ch (f a j : Nat) : Prop := (a = 101 ∧ (j = 7 ∨ j = 8 ∨ j = 9 ∨ (33 ≤ j ∧ j ≤ 35))) ∨ ((a = 122 ∨ a = 124) ∧ f ≤ j) ∨ (a = 123 ∧ f ≤ j + 1) ∨ a = 125
def vf_fr (f : Nat) (I I' : Nat → Nat → Int) : Prop := ∀ a j : Nat, ¬ vf_ch f a j → I' a j = I a j
theorem vf_refl {f : Nat} {I : Nat → Nat → Int} : vf_fr f I I := fun _ _ _ => rfl
theorem vf_trans {f f' : Nat} {I I1 I2 : Nat → Nat → Int} (h : vf_fr f I I1) (h' : vf_fr f' I1 I2) (hf : f ≤ f') : vf_fr f I I2 := fun a j g => (h' a j (fun q => g (by unfold vf_ch at q ⊢; omega))).trans (h a j g)
theorem vf_ut {f a k : Nat} {I I1 : Nat → Nat → Int} {v : Int} (h0 : vf_fr f I I1) (h : vf_ch f a k) : vf_fr f I (am_u I1 a k v) := fun x j g => (am_u_off (by rintro ⟨rfl, rfl⟩; exact g h)).trans (h0 x j g)
theorem vf_tab {F G : Nat → Nat → Int} {r s N m wd f : Nat} {I I' J : Nat → Nat → Int} (h : mtab F G r s N m wd I J) (hf : vf_fr f I I') : mtab F G r s N m wd I' J := by
  have e : ∀ a j : Nat, 107 ≤ a → a ≤ 118 → I' a j = I a j := fun a j h1 h2 => hf a j (by unfold vf_ch; omega)
  obtain ⟨h1, h2, h3, h4, h5, h6⟩ := h
  exact ⟨(e _ _ (by decide) (by decide)).trans h1, (e _ _ (by decide) (by decide)).trans h2, (e _ _ (by decide) (by decide)).trans h3, fun z hz => (e _ _ (by decide) (by decide)).trans (h4 z hz), fun l hl => (e _ _ (by decide) (by decide)).trans (h5 l hl), fun c hc => ⟨(e _ _ (by decide) (by decide)).trans (h6 c hc).1, (e _ _ (by decide) (by decide)).trans (h6 c hc).2.1, fun z z3 hz => (e _ _ (by decide) (by decide)).trans ((h6 c hc).2.2.1 z z3 hz), (h6 c hc).2.2.2⟩⟩
theorem vf_T {kd pl nu nm : Nat → Int} {c f : Nat} {I I' J : Nat → Nat → Int} (hT : mt_T I J kd pl nu nm c) (h : vf_fr f I I') : mt_T I' J kd pl nu nm c := by
  refine ⟨fun k hk => ?_, hT.2⟩
  rw [h 104 k (by unfold vf_ch; omega), h 103 k (by unfold vf_ch; omega)]
  exact hT.1 k hk
def vbad (I I' : Nat → Nat → Int) : Prop := vf_fr 0 I I' ∧ I' 101 8 = 1
def vw_L (d n s : Nat) (K : Nat → am_K) (J : Nat → Nat → Int) (R : Nat → Nat → Option Nat) (Q : am_Q) (col : Nat) (I : Nat → Nat → Int) : Prop := am_WP (d + 5) (54, 12, [.inr (.inl 101), .inl (s : Int), .inl (col : Int), am_o, am_o], [], (0, 0), n, K, I, J, R) Q
section MV
variable (d n0 : Nat) (K : Nat → am_K) (J : Nat → Nat → Int) (R : Nat → Nat → Option Nat) (Q : am_Q) (kd pl nu nm : Nat → Int) (c s : Nat) (N m wd : Nat) (F G : Nat → Nat → Int) (aT W : Nat → Int) (r : Nat)
def mvl_P (n : Nat) : Prop := ∀ (ts : List (tm n)) (i j f cnt col many base : Nat) (V : Nat → Int) (I : Nat → Nat → Int), mt_T I J kd pl nu nm c → I 101 7 = (i : Int) → i ≤ c → I 101 8 = 0 → mtab F G r s N m wd I J → rS F aT W r m wd f cnt col V many base I → cnt ≤ many → many ≤ 4 → col ≤ 4 → f + n ≤ 6 → (many ≤ 1 ∨ ∃ B : Nat, base = 4 * B + 1) → ls_sp (ft_sp kd pl nu nm true n) i ts j → (∀ t ∈ ts, tm_ok n t) →
  (ls_g (tf (fx (G (r + 7)) m) (F (r + 5)) (F (r + 6)) aT n) (tm_at n) (fun z => V (cnt + z)) (many - cnt) ts = none → ∀ (I' : Nat → Nat → Int) (col' : Nat), vf_fr f I I' → (∀ q : Nat, (∀ z : Nat, z < ts.length → ¬ un (base + cnt + z) q) → I' 125 q = I 125 q) → I' 101 7 = (j : Int) → j ≤ c → I' 101 8 = 0 → rS F aT W r m wd f (cnt + ts.length) col' V many base I' → col' ≤ 4 → (f ≠ 0 → col' = col) → ls_v (vS (fx (G (r + 7)) m) (nwc F r) (I' 125) n) (base + cnt) ts → vw_L d n0 s K J R Q col' I') →
  (∀ k : Int, ls_g (tf (fx (G (r + 7)) m) (F (r + 5)) (F (r + 6)) aT n) (tm_at n) (fun z => V (cnt + z)) (many - cnt) ts = some k → ∀ (I' : Nat → Nat → Int) (col' : Nat), vbad I I' → vw_L d n0 s K J R Q col' I') → vw_L d n0 s K J R Q col I
end MV
section MVP
variable {d n0 : Nat} {K : Nat → am_K} {J : Nat → Nat → Int} {R : Nat → Nat → Option Nat} {Q : am_Q} {kd pl nu nm : Nat → Int} {c s : Nat} {N m wd : Nat} {F G : Nat → Nat → Int} {aT W : Nat → Int} {r : Nat}
theorem mv_behind {I : Nat → Nat → Int} {f cnt col many base : Nat} {V : Nat → Int} {d' : Nat} {Q' : am_Q} (hB : am_B K R) (hS : rS F aT W r m wd f cnt col V many base I) (hf : f ≤ 6) (hcnt : cnt ≤ 4) (hcol : col ≤ 4) (post : ∀ (I' : Nat → Nat → Int) (z : Int) (col' : Nat), (∀ a j : Nat, ¬ (a = 123 ∧ f = j + 1) → I' a j = I a j) → rS F aT W r m wd f (cnt + 1) col' V many base I' → (col : Int) + z = (col' : Int) → col' ≤ col + 1 → (f ≠ 0 → col' = col) → Q' (some (.inl z)) (n0, K, I', J, R)) : am_WP d' (am_entry 45 [.inr (.inl 101)] (n0, K, I, J, R)) Q' :=
  m_behind hB hS (by omega) (by omega) (fun I' z col' f1 S1 e1 z0 z1 z2 => post I' z col' f1 S1 e1 (by omega) (fun h => by have := z2 h; omega))
/-- values that are bad end -/
theorem vd_12 {I : Nat → Nat → Int} {col : Nat} (hB : am_B K R) (hs : s < 2) (h8 : I 101 8 = 1) (h114 : I 114 s = (wd : Int)) (hQ : Q none (n0, K, I, J, R)) : vw_L d n0 s K J R Q col I := by
  have ixs : (0 : Int) ≤ (s : Int) ∧ (s : Int) < ((2 : Nat) : Int) := ⟨by omega, by omega⟩
  refine s_M_meaningOfValues_12 ⟨(am_kk hB rfl), am_nm_k h8 ?_⟩
  rintro _ rfl _ _
  refine ⟨fun _ => s_M_meaningOfValues_404 ⟨(am_kk hB rfl), 114, (am_rf hB rfl), _, (am_kk hB rfl), ixs, am_nm_k h114 ?_⟩, fun h => absurd h (by decide)⟩
  rintro _ rfl _ _
  exact ⟨fun _ => s_M_meaningOfValues_418 hQ, fun _ => ⟨(am_kk hB rfl), m_mis1 hB h8 ⟨rfl, s_M_meaningOfValues_418 hQ⟩⟩⟩
/-- the sign ) behind values -/
theorem mv_close {I I0 : Nat → Nat → Int} {q c' f cnt cnt' col many base : Nat} {V : Nat → Int} (hB : am_B K R) (hE : rE F aT W r s N m wd) (hT : mt_T I J kd pl nu nm c) (h7 : I 101 7 = (q : Int)) (hqc : q ≤ c) (h8 : I 101 8 = 0) (hk : kd q = 41) (ht : mtab F G r s N m wd I J) (hc' : c' < m) (h33 : I 101 33 = ((f + 1 : Nat) : Int)) (h122 : I 122 f = (c' : Int)) (h123 : I 123 f = (cnt' : Int)) (hS : rS F aT W r m wd f cnt col V many base I0) (hfr0 : ∀ a j : Nat, 122 ≤ a → a ≤ 124 → j < f → I a j = I0 a j) (hf : f ≤ 6) (hcnt : cnt ≤ 4) (hcol : col ≤ 4)
    (ok : F (r + 6) c' ≤ (cnt' : Int) → ∀ (I' : Nat → Nat → Int) (col' : Nat), vf_fr f I I' → (∀ x : Nat, I' 125 x = I 125 x) → I' 101 7 = ((q + 1 : Nat) : Int) → q + 1 ≤ c → I' 101 8 = 0 → rS F aT W r m wd f (cnt + 1) col' V many base I' → col' ≤ col + 1 → (f ≠ 0 → col' = col) → vw_L d n0 s K J R Q col' I')
    (bad : (cnt' : Int) < F (r + 6) c' → ∀ (I' : Nat → Nat → Int) (col' : Nat), vbad I I' → vw_L d n0 s K J R Q col' I') : vw_L d n0 s K J R Q col I := by
  have h12 := hT.2.1
  have ha := hE.2.2.2.2.2.1 c' hc'
  have hs := hE.1
  have hmm := hE.2.2.1
  have m2 := (ht.2.2.2.2.2 c' hc').2.1
  have h33' : I 101 33 = (f : Int) + 1 := h33
  have hl : q < c := mt_lt hT hqc (by rw [hk]; decide) (by rw [hk]; decide)
  have ixf : (0 : Int) ≤ (f : Int) ∧ (f : Int) < ((8 : Nat) : Int) := ⟨by omega, by omega⟩
  have ixc : (0 : Int) ≤ ((36 * s + c' : Nat) : Int) ∧ ((36 * s + c' : Nat) : Int) < ((72 : Nat) : Int) := ⟨by omega, by omega⟩
  have b81 : ∀ (I1 : Nat → Nat → Int) (X : Int), vf_fr f I I1 → I1 101 33 = (f : Int) + 1 → I1 101 7 = (q : Int) → (∀ a j : Nat, a ≠ 101 → I1 a j = I a j) → (∀ (I' : Nat → Nat → Int) (col' : Nat), vf_fr f I I' → (∀ x : Nat, I' 125 x = I 125 x) → I' 101 7 = ((q + 1 : Nat) : Int) → I' 101 8 = I1 101 8 → rS F aT W r m wd f (cnt + 1) col' V many base I' → col' ≤ col + 1 → (f ≠ 0 → col' = col) → vw_L d n0 s K J R Q col' I') → am_WP (d + 5) (54, 81, [.inr (.inl 101), .inl (s : Int), .inl (col : Int), .inl X, am_o], [], (0, 0), n0, K, I1, J, R) Q := by
    intro I1 X f1 g33 g7 got next
    refine s_M_meaningOfValues_81 ⟨(am_kk hB rfl), am_nm_k g33 ?_⟩
    rintro _ rfl _ _
    refine am_ar_i (by omega) (by omega) ?_
    rw [show (f : Int) + 1 - 1 = (f : Int) by omega]
    have S2 : rS F aT W r m wd f cnt col V many base (am_u I1 101 33 (f : Int)) := by
      refine rS_fr hS ?_ (fun a j a1 a2 a3 => ?_)
      · rw [am_u_kk]; exact hS.1.symm
      · rw [am_u_ne (by omega), got a j (by omega)]; exact hfr0 a j a1 a2 a3
    refine ⟨⟨by decide, (am_kk hB rfl)⟩, (am_kk hB rfl), mv_behind hB S2 hf hcnt hcol (fun I3 z col' f3 S3 e1 e2 e3 => ⟨z, rfl, s_M_meaningOfValues_96 (am_ar_i (by omega) (by omega) ⟨(am_kk hB rfl), am_nm_k (show I3 101 7 = (q : Int) from ?_) ?_⟩)⟩)⟩
    · rw [f3 _ _ (by omega), am_u_kn (by decide)]; exact g7
    · rintro _ rfl _ _
      rw [e1]
      refine am_ar_i (by omega) (by omega) ⟨⟨by decide, (am_kk hB rfl)⟩, ?_⟩
      have g := next (am_u I3 101 7 ((q : Int) + 1)) col' (vf_ut (vf_trans (vf_ut f1 (Or.inl ⟨rfl, by omega⟩)) (f' := f) (fun a j g => f3 a j (fun q => g (by unfold vf_ch; omega))) (Nat.le_refl _)) (Or.inl ⟨rfl, by omega⟩)) (fun x => ?_) am_u_kk ?_ (rS_fr S3 ?_ (fun a j a1 a2 a3 => am_u_ne (by omega))) e2 e3
      · exact am_WP.forget g _ (am_le_eq (am_le_eq (am_le_eq (am_le_o (am_le_eq am_le_nil)))))
      · rw [am_u_ne (by decide), f3 _ _ (by omega), am_u_ne (by decide), got _ _ (by decide)]
      · rw [am_u_kn (by decide), f3 _ _ (by omega), am_u_kn (by decide)]
      · exact am_u_kn (by decide)
  have n0' : kd q ≠ 0 := by rw [hk]; decide
  refine s_M_meaningOfValues_12 ⟨(am_kk hB rfl), am_nm_k h8 ?_⟩
  rintro _ rfl _ _
  refine ⟨fun h => absurd rfl h, fun _ => ⟨(am_kk hB rfl), _, (am_rf hB rfl), (am_kk hB rfl), m_srt hB hT h7 hqc (fun z _ e0 => ⟨fun h => absurd (e0.mp h) n0', fun _ => ⟨(am_kk hB rfl), m_isSign (by unfold tb_sg; decide) hB hT h7 hqc (fun _ => ⟨_, rfl, s_M_meaningOfValues_37 ⟨fun h => absurd h (by decide), fun _ => am_ar_i (by omega) (by omega) ⟨(am_kk hB rfl), 122, (am_rf hB rfl), (am_kk hB rfl), am_nm_k h33' ?_⟩⟩⟩) (fun h => absurd hk h)⟩⟩)⟩⟩
  rintro _ rfl _ _
  refine am_ar_i (by omega) (by omega) ?_
  rw [show (f : Int) + 1 - 1 = (f : Int) by omega]
  refine ⟨_, (am_kk hB rfl), ixf, am_nm_k h122 ?_⟩
  rintro _ rfl _ _
  refine am_ar_i (by omega) (by omega) ?_
  rw [show (36 : Int) * (s : Int) + (c' : Int) = ((36 * s + c' : Nat) : Int) by omega]
  refine ⟨(am_kk hB rfl), 123, (am_rf hB rfl), (am_kk hB rfl), am_nm_k h33' ?_⟩
  rintro _ rfl _ _
  refine am_ar_i (by omega) (by omega) ?_
  rw [show (f : Int) + 1 - 1 = (f : Int) by omega]
  refine ⟨_, (am_kk hB rfl), ixf, am_nm_k h123 ?_⟩
  rintro _ rfl _ _
  refine ⟨(am_kk hB rfl), 112, (am_rf hB rfl), _, (am_kk hB rfl), ixc, am_nm_k m2 ?_⟩
  rintro _ rfl _ _
  refine ⟨fun h => b81 I _ vf_refl h33' h7 (fun _ _ _ => rfl) (fun I' col' f1 a5 a7 a8 aS a4 a6 => ok h I' col' f1 a5 a7 hl (a8.trans h8) aS a4 a6), fun h => ⟨(am_kk hB rfl), m_mispl hB hT h7 hqc h8 ⟨rfl, b81 _ _ (vf_ut (vf_ut vf_refl (Or.inl ⟨rfl, by omega⟩)) (Or.inl ⟨rfl, by omega⟩)) ?_ ?_ (fun a j ha => by rw [am_u_ne ha, am_u_ne ha]) (fun I' col' f1 a5 a7 a8 aS a4 a6 => bad h I' col' ⟨vf_trans vf_refl f1 (Nat.zero_le _), ?_⟩)⟩⟩⟩
  · rw [am_u_kn (by decide), am_u_kn (by decide)]; exact h33'
  · rw [am_u_kn (by decide), am_u_kn (by decide)]; exact h7
  · rw [a8, am_u_kn (by decide)]; exact am_u_kk
end MVP
