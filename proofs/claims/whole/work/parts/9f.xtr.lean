/-! TRIAL: the class -/
def vk : (n : Nat) → tm n → Prop
  | 0, _ => False
  | n + 1, t => ((tm_l t).1 = 4 ∨ (tm_l t).1 = 5 ∨ (tm_l t).1 = 6 ∨ (tm_l t).1 = 7) ∧ ∀ k ∈ tm_k t, vk n k
def cdr (res : Int) : Int := if res = 1 then 0 else if res = 0 then -5 else -6
def tr_fr (I I' : Nat → Nat → Int) : Prop := ∀ a j : Nat, ¬ (a = 29 ∧ j = 0) → a ≠ 30 → I' a j = I a j
theorem tr_refl {I : Nat → Nat → Int} : tr_fr I I := fun _ _ _ _ => rfl
theorem tr_trans {I I1 I2 : Nat → Nat → Int} (h : tr_fr I I1) (h' : tr_fr I1 I2) : tr_fr I I2 := fun a j g1 g2 => (h' a j g1 g2).trans (h a j g1 g2)
def lkS (I : Nat → Nat → Int) (L : List Nat) : Prop := I 29 0 = (L.length : Int) ∧ lk (I 30) 0 L
section XT2
variable (F J : Nat → Nat → Int) (aT W : Nat → Int) (r m : Nat)
/-- a term in the class's rows, without fault, its constructors numbered -/
def vl (b n k : Nat) (u : tm n) (w : Int) : Prop := ft_H F J b n k u ∧ ft_G F b (fx (J (r + 7)) m) n k u ∧ tm_ok n u ∧ tf (fx (J (r + 7)) m) (F (r + 5)) (F (r + 6)) aT n w u = none ∧ k + tm_sz n u ≤ 60
end XT2
theorem ft_H_tr {I I' J : Nat → Nat → Int} {b n k : Nat} {u : tm n} (hb : b = 19 ∨ b = 56 ∨ b = 86) (h : ft_H I J b n k u) (hf : tr_fr I I') : ft_H I' J b n k u := ft_H_frame n k u h (fun x j a1 a2 _ _ _ => hf x j (by omega) (by omega)) (fun _ _ _ => rfl)
section XTC
variable {d n0 : Nat} {K : Nat → am_K} {F J : Nat → Nat → Int} {R : Nat → Nat → Option Nat} {Q : am_Q} {aT W : Nat → Int} {r s N m wd : Nat} {I : Nat → Nat → Int}
theorem x_keep {L : List Nat} {p : Nat} (hB : am_B K R) (hL : lkS I L) (hl : L.length < 60) (post : ∀ I' : Nat → Nat → Int, tr_fr I I' → lkS I' (la L p) → Q none (n0, K, I', J, R)) : am_WP d (am_entry 161 [.inr (.inl 29), .inl (p : Int)] (n0, K, I, J, R)) Q := by
  obtain ⟨h0, hk⟩ := hL
  have mem := lk_mem (p := p) L 0 hk
  have loop : ∀ (u j : Nat), j + u = L.length → (∀ i : Nat, i < j → I 30 i ≠ (p : Int)) → am_WP d (161, 2, [.inr (.inl 29), .inl (p : Int), .inl (j : Int)], [], (0, 0), n0, K, I, J, R) Q := by
    intro u
    induction u with
    | zero =>
      intro j hu hj
      have np : p ∉ L := by
        intro h
        obtain ⟨i, hi, e⟩ := mem.mp h
        rw [Nat.zero_add] at e
        exact hj i (by omega) e
      have el : la L p = L ++ [p] := if_neg np
      rw [el] at post
      refine s_Trial_keep_2 ⟨(am_kk hB rfl), am_nm_k h0 ?_⟩
      rintro _ rfl _ _
      refine ⟨fun _ => ⟨(am_kk hB rfl), am_nm_k h0 ?_⟩, fun h => absurd h (by omega)⟩
      rintro _ rfl _ _
      refine ⟨fun h => absurd h (by omega), fun _ => ⟨(am_kk hB rfl), 30, (am_rf hB rfl), (am_kk hB rfl), am_nm_k h0 ?_⟩⟩
      rintro _ rfl _ _
      refine ⟨_, by decide, (am_kk hB rfl), ⟨by omega, by omega⟩, (am_kk hB rfl), am_nm_k (show am_u I 30 L.length (p : Int) 29 0 = (L.length : Int) from (am_u_ne (by decide)).trans h0) ?_⟩
      rintro _ rfl _ _
      refine am_ar_i (by omega) (by omega) ⟨⟨by decide, (am_kk hB rfl)⟩, post _ (fun a j h1 h2 => ?_) ⟨?_, ?_⟩⟩
      · show am_u (am_u I 30 L.length (p : Int)) 29 0 ((L.length : Int) + 1) a j = I a j
        rw [am_u_off h1, am_u_ne h2]
      · rw [am_u_kk, List.length_append]; rfl
      · refine lk_app L 0 (lk_fr L 0 hk (fun j h1 h2 => ?_)) ?_
        · show am_u (am_u I 30 L.length (p : Int)) 29 0 ((L.length : Int) + 1) 30 j = I 30 j
          rw [am_u_ne (by decide), am_u_kn (by omega)]
        · show am_u (am_u I 30 L.length (p : Int)) 29 0 ((L.length : Int) + 1) 30 (0 + L.length) = (p : Int)
          rw [am_u_ne (by decide), Nat.zero_add, am_u_kk]
    | succ u ih =>
      intro j hu hj
      refine s_Trial_keep_2 ⟨(am_kk hB rfl), am_nm_k h0 ?_⟩
      rintro _ rfl _ _
      refine ⟨fun h => absurd h (by omega), fun _ => ⟨(am_kk hB rfl), 30, (am_rf hB rfl), _, (am_kk hB rfl), ⟨by omega, by omega⟩, fun z8 hz8 _ _ => ⟨fun h => am_ar_i (by omega) (by omega) (ih (j + 1) (by omega) (fun i hi => ?_)), fun h => ?_⟩⟩⟩
      · by_cases e : i = j
        · rw [e]; intro q; exact h (hz8.trans q)
        · exact hj i (by omega)
      · have hp : p ∈ L := mem.mpr ⟨j, by omega, by rw [Nat.zero_add]; exact hz8.symm.trans h⟩
        have el : la L p = L := if_pos hp
        rw [el] at post
        exact post I tr_refl ⟨h0, hk⟩
  exact e_Trial_keep (loop L.length 0 (by omega) (fun i hi => absurd hi (Nat.not_lt_zero i)))
/-- the number of a constructor without fault -/
theorem vl_con {b n k : Nat} {u : tm (n + 1)} {w : Int} (h : vl F J aT r m b (n + 1) k u w) (hk : (tm_l u).1 = 5 ∨ (tm_l u).1 = 6) : ∃ c : Nat, c < m ∧ fx (J (r + 7)) m (tm_l u).2.2.2.2.1 = (c : Int) ∧ F (r + 5) c = w ∧ F (b + 7) k = (c : Int) ∧ ((tm_l u).1 = 5 → F (r + 6) c = 0 ∧ tm_k u = []) ∧ ((tm_l u).1 = 6 → ls_f (tf (fx (J (r + 7)) m) (F (r + 5)) (F (r + 6)) aT n) (tm_at n) (tm_l u).2.2.2.1 (fun i => aT (3 * c + i)) (F (r + 6) c).toNat (tm_k u) = none ∧ ∀ x ∈ tm_k u, tm_ok n x) := by
  obtain ⟨h1, h2, h3, h4, h5⟩ := h
  have hg := h2.1 hk
  unfold tf at h4
  rw [if_neg (by omega), if_pos hk] at h4
  by_cases hc : fx (J (r + 7)) m (tm_l u).2.2.2.2.1 = -1 ∨ F (r + 5) (fx (J (r + 7)) m (tm_l u).2.2.2.2.1).toNat ≠ w
  · rw [if_pos hc] at h4; exact absurd h4 (by simp)
  · rw [if_neg hc] at h4
    rcases fx_cases (J (r + 7)) (tm_l u).2.2.2.2.1 m with ⟨x1, -⟩ | ⟨c, hc', x1, -, -⟩
    · exact absurd (Or.inl x1) hc
    · rw [x1, Int.toNat_natCast] at hc h4
      rw [x1] at hg
      refine ⟨c, hc', x1, ?_, hg, fun k5 => ?_, fun k6 => ?_⟩
      · rcases Decidable.em (F (r + 5) c = w) with q | q
        · exact q
        · exact absurd (Or.inr q) hc
      · rw [if_pos k5] at h4
        refine ⟨?_, ?_⟩
        · rcases Decidable.em (F (r + 6) c = 0) with q | q
          · exact q
          · rw [if_neg q] at h4; exact absurd h4 (by simp)
        · rcases h3.2.2.2 with q | q | q | q
          · exact q.2
          · exact q.2.1
          · omega
          · omega
      · rw [if_neg (by omega)] at h4
        refine ⟨h4, ?_⟩
        rcases h3.2.2.2 with q | q | q | q
        · omega
        · omega
        · omega
        · exact q.2.2
theorem x_isNew {b n k : Nat} {u : tm (n + 1)} {w : Int} (hB : am_B K R) (hr : r = 41 ∨ r = 71) (hb : b = 19 ∨ b = r + 15) (hE : rE F aT W r s N m wd) (h : vl F J aT r m b (n + 1) k u w) (hF : tr_fr F I) (yes : ((tm_l u).1 = 5 ∨ (tm_l u).1 = 6) → nwc F r (fx (J (r + 7)) m (tm_l u).2.2.2.2.1) = true → Q (some (.inl 1)) (n0, K, I, J, R)) (no : ¬ (((tm_l u).1 = 5 ∨ (tm_l u).1 = 6) ∧ nwc F r (fx (J (r + 7)) m (tm_l u).2.2.2.2.1) = true) → Q (some (.inl 0)) (n0, K, I, J, R)) : am_WP (d + 1) (am_entry 115 [.inr (.inl r), .inr (.inl b), .inl (k : Int)] (n0, K, I, J, R)) Q := by
  have hb' : ft_b b := by unfold ft_b; omega
  have k0 : K r = .inl 5 := am_kq (i := 0) hB hr (by decide) rfl
  have k1 : K (r + 1) = .inl 10 := am_kq (i := 1) hB hr (by decide) rfl
  have kb : K b = .inl 7 := am_kb (i := 0) hB hb' (by decide) rfl
  have ez : tm_sz (n + 1) u = 1 + ls_sz (tm_sz n) (tm_k u) := rfl
  have hk60 := h.2.2.2.2
  have ix : (0 : Int) ≤ (k : Int) ∧ (k : Int) < ((60 : Nat) : Int) := ⟨by omega, by omega⟩
  have h1 : I (b + 1) k = (tm_l u).1 := (hF _ _ (by omega) (by omega)).trans h.1.1
  have hmm := hE.2.2.1
  refine e_Rules_isNewCon ⟨kb, b + 7, am_rb hB hb' rfl rfl, _, am_kb hB hb' (by decide) rfl, ix, fun z2 hz2 _ _ => ⟨kb, e_Terms_isCon ⟨kb, b + 1, am_rb hB hb' rfl rfl, _, am_kb hB hb' (by decide) rfl, ix, am_nm_k h1 ?_⟩⟩⟩
  rintro _ rfl _ _
  have con : ((tm_l u).1 = 5 ∨ (tm_l u).1 = 6) → am_WP (d + 1) (115, 12, [.inr (.inl r), .inr (.inl b), .inl (k : Int), .inl z2], [.inl 1], (0, 0), n0, K, I, J, R) Q := by
    intro hk
    obtain ⟨c, hc, x1, x2, x3, -⟩ := vl_con h hk
    have ez2 : z2 = (c : Int) := hz2.trans ((hF _ _ (by omega) (by omega)).trans x3)
    obtain ⟨⟨T, hT, hcT, -⟩, -⟩ := hE.2.2.2.2.2.1 c hc
    have n01 := (hE.2.2.2.2.1 T hT).2.2.2
    have hN := hE.2.1
    have hnw : nwc F r (c : Int) = decide (F (r + 2) T = 1) := by
      unfold nwc; rw [Int.toNat_natCast, hcT, Int.toNat_natCast]
    rw [x1, hnw] at yes no
    refine s_Rules_isNewCon_12 ⟨fun h => absurd h (by decide), fun _ => ⟨fun h => absurd h (by omega), fun _ => ⟨k0, r + 1, am_rq (i := 0) hB hr rfl rfl, k1, r + 2, am_rq (i := 1) hB hr rfl rfl, k0, r + 1, am_rq (i := 0) hB hr rfl rfl, k1, r + 5, am_rq (i := 1) hB hr rfl rfl, _, am_kq hB hr (by decide) rfl, ⟨by omega, by omega⟩, ?_⟩⟩⟩
    rw [ez2]
    refine am_nm_k ((hF _ _ (by omega) (by omega)).trans hcT) ?_
    rintro _ rfl _ _
    refine ⟨_, Or.inl ⟨by unfold am_nc; omega, am_kq hB hr (by decide) rfl⟩, ⟨by omega, by omega⟩, am_nm_k (show I (r + 2) T = F (r + 2) T from hF _ _ (by omega) (by omega)) ?_⟩
    rintro _ rfl _ _
    refine ⟨fun h0 => s_Rules_isNewCon_45 ⟨Or.inl rfl, no ?_⟩, fun h1 => s_Rules_isNewCon_45 ⟨Or.inr rfl, yes hk ?_⟩⟩
    · rintro ⟨-, q⟩
      have : F (r + 2) T = 1 := by simpa using q
      omega
    · have : F (r + 2) T = 1 := by omega
      simp [this]
  refine ⟨fun k5 => s_Terms_isCon_26 ⟨Or.inr rfl, _, rfl, con (Or.inl k5)⟩, fun n5 => ⟨kb, b + 1, am_rb hB hb' rfl rfl, _, am_kb hB hb' (by decide) rfl, ix, am_nm_k h1 ?_⟩⟩
  rintro _ rfl _ _
  exact ⟨fun n6 => s_Terms_isCon_26 ⟨Or.inl rfl, _, rfl, s_Rules_isNewCon_12 ⟨fun _ => s_Rules_isNewCon_45 ⟨Or.inl rfl, no (fun q => by omega)⟩, fun h => absurd rfl h⟩⟩, fun k6 => s_Terms_isCon_26 ⟨Or.inr rfl, _, rfl, con (Or.inr k6)⟩⟩
/-- a constructor of a new type has one kid -/
theorem vl_new {b n k : Nat} {u : tm (n + 1)} {w : Int} (hE : rE F aT W r s N m wd) (h : vl F J aT r m b (n + 1) k u w) (hk : (tm_l u).1 = 5 ∨ (tm_l u).1 = 6) (hn : nwc F r (fx (J (r + 7)) m (tm_l u).2.2.2.2.1) = true) : ∃ (c : Nat) (x : tm n), c < m ∧ fx (J (r + 7)) m (tm_l u).2.2.2.2.1 = (c : Int) ∧ F (r + 5) c = w ∧ (tm_l u).1 = 6 ∧ tm_k u = [x] ∧ vl F J aT r m b n (k + 1) x (aT (3 * c)) ∧ F (b + 8) k = ((k + 1 : Nat) : Int) := by
  obtain ⟨c, hc, x1, x2, x3, x4, x5⟩ := vl_con h hk
  obtain ⟨⟨T, hT, hcT, hnw⟩, -⟩ := hE.2.2.2.2.2.1 c hc
  rw [x1] at hn
  have hn1 : F (r + 2) T = 1 := by
    unfold nwc at hn
    rw [Int.toNat_natCast, hcT, Int.toNat_natCast] at hn
    simpa using hn
  have ha := hnw hn1
  have k6 : (tm_l u).1 = 6 := by
    rcases hk with q | q
    · have := (x4 q).1; omega
    · exact q
  obtain ⟨l1, l2⟩ := x5 k6
  rw [ha] at l1
  obtain ⟨h1, h2, h3, h4, h5⟩ := h
  have ez : tm_sz (n + 1) u = 1 + ls_sz (tm_sz n) (tm_k u) := rfl
  obtain ⟨q1, q2, q3, q4, q5, q6, q7, q8⟩ := h1
  rcases hks : tm_k u with _ | ⟨x, xs⟩
  · rw [hks] at l1; exact absurd l1 (by simp [ls_f])
  · rw [hks] at l1 l2 q7 q8 ez
    have hg := h2.2
    rw [hks] at hg
    have l1' : oe (tf (fx (J (r + 7)) m) (F (r + 5)) (F (r + 6)) aT n (aT (3 * c + 0)) x) (ls_f (tf (fx (J (r + 7)) m) (F (r + 5)) (F (r + 6)) aT n) (tm_at n) (tm_l u).2.2.2.1 (fun i => aT (3 * c + (i + 1))) 0 xs) = none := l1
    obtain ⟨m1, m2⟩ := oe_none l1'
    have hxs : xs = [] := by
      cases xs with
      | nil => rfl
      | cons y ys => exact absurd m2 (by simp [ls_f])
    subst hxs
    have ez2 : ls_sz (tm_sz n) [x] = tm_sz n x + 0 := rfl
    exact ⟨c, x, hc, x1, x2, k6, rfl, ⟨q8.1, hg.1, l2 x List.mem_cons_self, m1, by omega⟩, q7⟩
def sn_new (F J : Nat → Nat → Int) (r m : Nat) : (nu : Nat) → tm nu → Prop
  | 0, _ => False
  | _ + 1, u => ((tm_l u).1 = 5 ∨ (tm_l u).1 = 6) ∧ nwc F r (fx (J (r + 7)) m (tm_l u).2.2.2.2.1) = true
def sn_same (F J : Nat → Nat → Int) (r m nu : Nat) (u : tm nu) (w w' : Int) : Prop := ¬ sn_new F J r m nu u → w' = w
/-- what is seen behind constructors of new types -/
theorem x_look {L : List Nat} {p : Nat} (hB : am_B K R) (hr : r = 41 ∨ r = 71) (hE : rE F aT W r s N m wd) (hF : tr_fr F I) (hL : lkS I L) (hl : L.length < 60) (x3 : Int) : ∀ (nu k z : Nat) (u : tm nu) (w : Int), z + nu ≤ 6 → vl F J aT r m 19 nu k u w → vk nu u →
    (∀ (I' : Nat → Nat → Int) (nu' k' : Nat) (u' : tm (nu' + 1)) (w' : Int), tr_fr I I' → lkS I' (la L p) → vl F J aT r m 19 (nu' + 1) k' u' w' → vk (nu' + 1) u' → ¬ (((tm_l u').1 = 5 ∨ (tm_l u').1 = 6) ∧ nwc F r (fx (J (r + 7)) m (tm_l u').2.2.2.2.1) = true) → (∀ V : Nat → Int, vS (fx (J (r + 7)) m) (nwc F r) V nu p u → vS (fx (J (r + 7)) m) (nwc F r) V (nu' + 1) p u') → sn_same F J r m nu u w w' → nu' + 1 ≤ nu → Q (some (.inl (k' : Int))) (n0, K, I', J, R)) → am_WP (d + 3) (160, 6, [.inr (.inl 29), .inr (.inl r), .inr (.inl 19), .inl x3, .inl (p : Int), .inl (k : Int), .inl (z : Int)], [], (0, 0), n0, K, I, J, R) Q := by
  intro nu
  induction nu with
  | zero => intro k z u w _ h; exact h.2.2.1.elim
  | succ nu ih =>
    intro k z u w hz h hv post
    have ez : tm_sz (nu + 1) u = 1 + ls_sz (tm_sz nu) (tm_k u) := rfl
    have h60 := h.2.2.2.2
    have ix : (0 : Int) ≤ (k : Int) ∧ (k : Int) < ((60 : Nat) : Int) := ⟨by omega, by omega⟩
    refine s_Trial_look_6 ⟨fun h6 => absurd h6 (by omega), fun _ => ⟨am_kq (i := 0) hB hr (by decide) rfl, x_isNew hB hr (Or.inl rfl) hE h hF (fun hk hn => ⟨_, rfl, s_Trial_look_20 ⟨fun h => absurd h (by decide), fun _ => ⟨(am_kk hB rfl), 27, (am_rf hB rfl), _, (am_kk hB rfl), ix, ?_⟩⟩⟩) (fun hn => ⟨_, rfl, s_Trial_look_20 ⟨fun _ => ⟨(am_kk hB rfl), ?_⟩, fun h => absurd rfl h⟩⟩)⟩⟩
    · obtain ⟨c, x, hc, x1, x2, k6, hks, hx, hfst⟩ := vl_new hE h hk hn
      have e27 : I 27 k = ((k + 1 : Nat) : Int) := (hF 27 k (by omega) (by omega)).trans hfst
      refine am_nm_k e27 ?_
      rintro _ rfl _ _
      refine ⟨fun h => absurd h (by omega), fun _ => ⟨(am_kk hB rfl), 27, (am_rf hB rfl), _, (am_kk hB rfl), ix, am_nm_k e27 ?_⟩⟩
      rintro _ rfl _ _
      refine am_ar_i (by omega) (by omega) (ih (k + 1) (z + 1) x (aT (3 * c)) (by omega) hx (hv.2 x (by rw [hks]; exact List.mem_cons_self)) (fun I' nu' k' u' w' f1 l1 v1 v2 v3 v4 _ v6 => post I' nu' k' u' w' f1 l1 v1 v2 v3 (fun V hV => v4 V ?_) (fun hno => absurd ⟨hk, hn⟩ hno) (by omega)))
      rcases hV with q | q | q
      · omega
      · omega
      · rcases q.2 with q | q
        · rw [hks] at q; exact q.2.1
        · rw [q.1] at hn; exact absurd hn (by decide)
    · exact x_keep hB hL hl (fun I' f1 l1 => ⟨rfl, s_Trial_look_55 (post I' nu k u w f1 l1 h hv hn (fun _ hV => hV) (fun _ => rfl) (Nat.le_refl _))⟩)
end XTC
