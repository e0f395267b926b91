/-! TRIAL: the class tries pats, by depth -/
theorem al_u {cof : Int → Int} {nwf : Int → Bool} {n p : Nat} {t : tm (n + 1)} : al cof nwf (n + 1) p t = (if (tm_l t).1 = 2 then (p, -1) :: ls_al (al cof nwf n) p (tm_k t)
    else if (tm_l t).1 = 3 then ls_al (al cof nwf n) p (tm_k t)
    else if (tm_l t).1 = 4 then [(p, 100 + (tm_l t).2.2.2.2.2)]
    else if (tm_l t).1 = 5 ∨ (tm_l t).1 = 6 then (if nwf (cof (tm_l t).2.2.2.2.1) = true then ls_al (al cof nwf n) p (tm_k t) else (p, cof (tm_l t).2.2.2.2.1) :: ls_al (al cof nwf n) (4 * p + 1) (tm_k t))
    else []) := rfl
section XPS
variable {n0 : Nat} {K : Nat → am_K} {F J : Nat → Nat → Int} {R : Nat → Nat → Option Nat} {aT W : Nat → Int} {r s N m wd : Nat}
theorem vS_ne {cof : Int → Int} {nwf : Int → Bool} {V : Nat → Int} {n p c : Nat} {u : tm (n + 1)} (h : vS cof nwf V (n + 1) p u) (hok : tm_ok (n + 1) u) (hn : ¬ (((tm_l u).1 = 5 ∨ (tm_l u).1 = 6) ∧ nwf (cof (tm_l u).2.2.2.2.1) = true)) : ((tm_l u).1 = 7 ∧ V p = -2) ∨ ((tm_l u).1 = 4 ∧ V p = 100 + (tm_l u).2.2.2.2.2 ∧ 0 ≤ (tm_l u).2.2.2.2.2) ∨ (((tm_l u).1 = 5 ∨ (tm_l u).1 = 6) ∧ V p = cof (tm_l u).2.2.2.2.1 ∧ ls_v (vS cof nwf V n) (4 * p + 1) (tm_k u)) := by
  rcases h with h | h | h
  · exact Or.inl h
  · refine Or.inr (Or.inl ⟨h.1, h.2, ?_⟩)
    rcases hok.2.2.2 with q | q | q | q
    · omega
    · exact q.2.2.1
    · omega
    · omega
  · rcases h.2 with q | q
    · exact absurd ⟨h.1, q.1⟩ hn
    · exact Or.inr (Or.inr ⟨h.1, q.2⟩)
theorem xp_step (n : Nat) (hB : am_B K R) (hr : r = 41 ∨ r = 71) (hE : rE F aT W r s N m wd) (hTy : tyS F r N m) (hX : xp_P n0 K F J R aT r m n) (hL : xp_L n0 K F J R aT r m n) : xp_P n0 K F J R aT r m (n + 1) := by
  intro nu i k p D t u w L I Q hnu hD hF ht hpk hu huk hLk hl hb post
  obtain ⟨d, rfl⟩ : ∃ d, D = d + 4 := ⟨D - 4, by omega⟩
  have k0 : K r = .inl 5 := am_kq (i := 0) hB hr (by decide) rfl
  have k15 : K (r + 15) = .inl 7 := am_kq (i := 15) hB hr (by decide) rfl
  have ht0 := ht
  have hu0 := hu
  obtain ⟨tH, tG, tO, tF, t60⟩ := ht
  have ez : tm_sz (n + 1) t = 1 + ls_sz (tm_sz n) (tm_k t) := rfl
  obtain ⟨q1, q2, q3, q4, q5, q6, q7, q8⟩ := tH
  have ixi : (0 : Int) ≤ (i : Int) ∧ (i : Int) < ((60 : Nat) : Int) := ⟨by omega, by omega⟩
  have g1 : I (r + 16) i = (tm_l t).1 := (hF _ _ (by omega) (by omega)).trans q1
  have g8 : I (r + 23) i = (bif (tm_k t).isEmpty then -1 else ((i + 1 : Nat) : Int)) := (hF _ _ (by omega) (by omega)).trans q7
  have hN := hE.2.1
  have hmm := hE.2.2.1
  have e4 : 4 ^ (n + 1) = 4 * 4 ^ n := by rw [Nat.pow_succ]; omega
  have hp1 : (p + 2) * 4 ^ n ≤ 1000000 := by
    rw [e4] at hb
    have : (p + 2) * 4 ^ n ≤ (p + 2) * (4 * 4 ^ n) := Nat.mul_le_mul_left _ (by omega)
    omega
  have hp4 : (4 * p + 1 + 5) * 4 ^ n ≤ 1000000 := by
    rw [e4] at hb
    have : (4 * p + 1 + 5) * 4 ^ n ≤ (4 * (p + 2)) * 4 ^ n := Nat.mul_le_mul_right _ (by omega)
    have e : (4 * (p + 2)) * 4 ^ n = (p + 2) * (4 * 4 ^ n) := by
      rw [Nat.mul_comm 4 (p + 2), Nat.mul_assoc]
    omega
  have hpp : p ≤ 250000 := by
    have h1 : 1 ≤ 4 ^ n := Nat.one_le_pow _ _ (by decide)
    have := Nat.mul_le_mul_left (4 * p + 1 + 5) h1
    omega
  -- a pat of one kid
  have kid : ∀ x : tm n, tm_k t = [x] → ¬ ((tm_l t).1 = 4 ∨ (tm_l t).1 = 5 ∨ (tm_l t).1 = 6) → vl F J aT r m (r + 15) n (i + 1) x w ∧ pkd n x := by
    intro x hx hk
    rw [hx] at q8 ez
    have hg := tG.2
    rw [hx] at hg
    have tF' := tF
    unfold tf at tF'
    rw [if_neg (by omega), if_neg (by omega), hx] at tF'
    have ez2 : ls_sz (tm_sz n) [x] = tm_sz n x + 0 := rfl
    refine ⟨⟨q8.1, hg.1, ?_, tF', by omega⟩, hpk.2 x (by rw [hx]; exact List.mem_cons_self)⟩
    rcases tO.2.2.2 with q | q | q | q
    · rw [hx] at q; exact absurd q.2 (by simp)
    · omega
    · obtain ⟨_, y, e, hy⟩ := q
      rw [hx] at e
      have := (List.cons.inj e).1
      rw [this]; exact hy
    · omega
  have one : ((tm_l t).1 = 1 ∨ (tm_l t).1 = 2 ∨ (tm_l t).1 = 3) → ∃ x : tm n, tm_k t = [x] := by
    intro hk
    rcases tO.2.2.2 with q | q | q | q
    · omega
    · omega
    · obtain ⟨_, y, e, _⟩ := q
      exact ⟨y, e⟩
    · omega
  refine e_Trial_tryPat ⟨k0, r + 15, am_rq (i := 0) hB hr rfl rfl, k15, r + 16, am_rq (i := 15) hB hr rfl rfl, _, am_kq (i := 16) hB hr (by decide) rfl, ixi, am_nm_k g1 ?_⟩
  rintro _ rfl _ _
  refine ⟨k15, r + 23, am_rq (i := 15) hB hr rfl rfl, _, am_kq (i := 23) hB hr (by decide) rfl, ixi, am_nm_k g8 ?_⟩
  rintro _ rfl _ _
  have trivialA : al (fx (J (r + 7)) m) (nwc F r) (n + 1) p t = [] → Q (some (.inl 0)) (n0, K, I, J, R) := by
    intro e
    have := post I 1 L ⟨tr_refl, hLk, by omega, Or.inl rfl, fun V _ => by rw [e]; rfl⟩
    exact this
  refine ⟨fun z0 => trivialA ?_, fun n0' => ⟨fun n1 => ⟨fun n3 => ⟨k0, ?_⟩, fun z3 => ?_⟩, fun z1 => trivialA ?_⟩⟩
  · rw [al_u, if_neg (by omega), if_neg (by omega), if_neg (by omega), if_neg (by omega)]
  · -- the constructor of a new type, or a look
    refine x_isNew hB hr (Or.inr rfl) hE ht0 hF (fun hk hn => ⟨_, rfl, s_Trial_tryPat_73 ⟨fun h => absurd h (by decide), fun _ => ⟨k0, ?_⟩⟩⟩) (fun hn => ⟨_, rfl, s_Trial_tryPat_73 ⟨fun _ => ⟨(am_kk hB rfl), e_Trial_look ?_⟩, fun h => absurd rfl h⟩⟩)
    · -- new
      obtain ⟨c, x, hc, x1, x2, k6, hks, hx, -⟩ := vl_new hE ht0 hk hn
      obtain ⟨⟨T, hT, hcT, -⟩, -⟩ := hE.2.2.2.2.2.1 c hc
      have hxp := hpk.2 x (by rw [hks]; exact List.mem_cons_self)
      have eal : al (fx (J (r + 7)) m) (nwc F r) (n + 1) p t = al (fx (J (r + 7)) m) (nwc F r) n p x := by
        rw [al_u, if_neg (by omega), if_neg (by omega), if_neg (by omega), if_pos hk, if_pos hn, hks]
        show al _ _ n p x ++ [] = _
        rw [List.append_nil]
      have hT1 : F (r + 2) T = 1 := by
        rw [x1] at hn
        unfold nwc at hn
        rw [Int.toNat_natCast, hcT, Int.toNat_natCast] at hn
        simpa using hn
      have run : ∀ (k' nu' : Nat) (u' : tm nu'), nu' ≤ 6 → vl F J aT r m 19 nu' k' u' (aT (3 * c)) → vk nu' u' → (∀ V : Nat → Int, vS (fx (J (r + 7)) m) (nwc F r) V nu p u → vS (fx (J (r + 7)) m) (nwc F r) V nu' p u') → am_WP (d + 4) (159, 98, [.inr (.inl 29), .inr (.inl r), .inr (.inl 19), .inl (i : Int), .inl (k : Int), .inl (p : Int), .inr (.inl (r + 15)), .inl (tm_l t).1, .inl (bif (tm_k t).isEmpty then -1 else ((i + 1 : Nat) : Int)), am_o], [.inl (k' : Int)], (0, 0), n0, K, I, J, R) Q := by
        intro k' nu' u' hnu' hu' hvk' hV'
        rw [hks]
        refine s_Trial_tryPat_98 ⟨fun h => absurd (show ((i + 1 : Nat) : Int) = -1 from h) (by omega), fun _ => ⟨fun _ => ⟨(am_kk hB rfl), ?_⟩, fun h => absurd h (by omega)⟩⟩
        refine hX nu' (i + 1) k' p (d + 3) x u' (aT (3 * c)) L I _ hnu' (by omega) hF hx hxp hu' hvk' hLk (by rw [← eal]; exact hl) hp1 (fun I1 res L1 hA => ⟨_, rfl, s_Trial_tryPat_128 (post I1 res L1 ?_)⟩)
        obtain ⟨a1, a2, a3, a4, a5⟩ := hA
        rw [eal]
        exact ⟨a1, a2, a3, a4, fun V hV => a5 V (hV' V hV)⟩
      cases nu with
      | zero => exact hu0.2.2.1.elim
      | succ nu =>
        refine x_isNew hB hr (Or.inl rfl) hE hu0 hF (fun hk2 hn2 => ⟨_, rfl, s_Trial_tryPat_83 ⟨fun h => absurd h (by decide), fun _ => ⟨(am_kk hB rfl), 27, (am_rf hB rfl), _, (am_kk hB rfl), ?_, ?_⟩⟩⟩) (fun hn2 => ⟨_, rfl, s_Trial_tryPat_83 ⟨fun _ => run k (nu + 1) u hnu ?_ huk (fun _ hV => hV), fun h => absurd rfl h⟩⟩)
        · have := hu0.2.2.2.2
          have ez2 : tm_sz (nu + 1) u = 1 + ls_sz (tm_sz nu) (tm_k u) := rfl
          exact ⟨by omega, by show (k : Int) < ((60 : Nat) : Int); omega⟩
        · obtain ⟨c2, y, hc2, y1, y2, y6, hks2, hy, hfst⟩ := vl_new hE hu0 hk2 hn2
          have ec : c2 = c := by
            obtain ⟨fc, kc, -, -, a3, a4, a5, a6, a7⟩ := hTy T hT
            have b1 := (a6 c hc).mp hcT
            have b2 := (a6 c2 hc2).mp (by rw [y2, ← x2, hcT])
            have := (a7 hT1).2
            omega
          subst ec
          have e27 : I 27 k = ((k + 1 : Nat) : Int) := (hF 27 k (by omega) (by omega)).trans hfst
          refine am_nm_k e27 ?_
          rintro _ rfl _ _
          refine run (k + 1) nu y (by omega) hy (huk.2 y (by rw [hks2]; exact List.mem_cons_self)) (fun V hV => ?_)
          rcases hV with q | q | q
          · omega
          · omega
          · rcases q.2 with q | q
            · rw [hks2] at q; exact q.2.1
            · rw [q.1] at hn2; exact absurd hn2 (by decide)
        · -- the value is not there
          have k7 : (tm_l u).1 = 7 := by
            rcases huk.1 with q | q | q | q
            · have hf := hu0.2.2.2.1
              unfold tf at hf
              rw [if_pos q] at hf
              have w6 : w = 6 := by
                rcases Decidable.em (w = 6) with e | e
                · exact e
                · rw [if_neg e] at hf; exact absurd hf (by simp)
              rw [← x2, hcT] at w6; omega
            · exfalso
              obtain ⟨c2, hc2, y1, y2, -⟩ := vl_con hu0 (Or.inl q)
              apply hn2
              refine ⟨Or.inl q, ?_⟩
              rw [y1]; unfold nwc
              rw [Int.toNat_natCast, y2, ← x2, hcT, Int.toNat_natCast]; simp [hT1]
            · exfalso
              obtain ⟨c2, hc2, y1, y2, -⟩ := vl_con hu0 (Or.inr q)
              apply hn2
              refine ⟨Or.inr q, ?_⟩
              rw [y1]; unfold nwc
              rw [Int.toNat_natCast, y2, ← x2, hcT, Int.toNat_natCast]; simp [hT1]
            · exact q
          refine ⟨hu0.1, hu0.2.1, hu0.2.2.1, ?_, hu0.2.2.2.2⟩
          unfold tf
          rw [if_neg (by omega), if_neg (by omega)]
          rcases hu0.2.2.1.2.2.2 with q | q | q | q
          · rw [q.2]
          · omega
          · omega
          · omega
    · -- a look
      have al1 : ∃ (y : Int) (B : List (Nat × Int)), al (fx (J (r + 7)) m) (nwc F r) (n + 1) p t = (p, y) :: B := by
        rw [al_u]
        by_cases k2 : (tm_l t).1 = 2
        · rw [if_pos k2]; exact ⟨_, _, rfl⟩
        · rw [if_neg k2, if_neg (by omega)]
          by_cases k4 : (tm_l t).1 = 4
          · rw [if_pos k4]; exact ⟨_, _, rfl⟩
          · have h56 : (tm_l t).1 = 5 ∨ (tm_l t).1 = 6 := by
              rcases tO.2.2.2 with q | q | q | q
              · have := hpk.1; omega
              · omega
              · omega
              · omega
            rw [if_neg k4, if_pos h56, if_neg (fun h => hn ⟨h56, h⟩)]; exact ⟨_, _, rfl⟩
      obtain ⟨y0, B0, eal0⟩ := al1
      have l60 : L.length < 60 := by
        rw [eal0] at hl
        have : ((p, y0) :: B0).length = B0.length + 1 := rfl
        omega
      refine x_look (p := p) (W := W) hB hr hE hF hLk l60 (k : Int) nu k 0 u w (by omega) hu0 huk (fun I1 nu' k' u' w' f1 l1 v1 v2 v3 v4 v5 v6 => ⟨_, rfl, ?_⟩)
      have hF1 := tr_trans hF f1
      have ez2 : tm_sz (nu' + 1) u' = 1 + ls_sz (tm_sz nu') (tm_k u') := rfl
      have v60 := v1.2.2.2.2
      have ixk : (0 : Int) ≤ (k' : Int) ∧ (k' : Int) < ((60 : Nat) : Int) := ⟨by omega, by omega⟩
      have gk : I1 20 k' = (tm_l u').1 := (hF1 _ _ (by omega) (by omega)).trans v1.1.1
      have lal : (la L p).length ≤ L.length + 1 := la_len
      -- what every table of values says here
      have key : ∀ V : Nat → Int, vS (fx (J (r + 7)) m) (nwc F r) V nu p u → ((tm_l u').1 = 7 ∧ V p = -2) ∨ ((tm_l u').1 = 4 ∧ V p = 100 + (tm_l u').2.2.2.2.2 ∧ 0 ≤ (tm_l u').2.2.2.2.2) ∨ (((tm_l u').1 = 5 ∨ (tm_l u').1 = 6) ∧ V p = fx (J (r + 7)) m (tm_l u').2.2.2.2.1 ∧ ls_v (vS (fx (J (r + 7)) m) (nwc F r) V nu') (4 * p + 1) (tm_k u')) := fun V hV => vS_ne (c := 0) (v4 V hV) v1.2.2.1 v3
      have consA : ∀ (y : Int) (B : List (Nat × Int)) (V : Nat → Int), tra V ((p, y) :: B) L = (if V p = -2 then (-2, la L p) else if y ≠ -1 ∧ V p ≠ y then (0, la L p) else tra V B (la L p)) := fun _ _ _ => rfl
      refine s_Trial_tryPat_139 ⟨(am_kk hB rfl), 20, (am_rf hB rfl), _, (am_kk hB rfl), ixk, am_nm_k gk ?_⟩
      rintro _ rfl _ _
      refine ⟨fun n7 => ⟨fun n2 => ⟨fun n4 => ?_, fun k4 => ?_⟩, fun k2 => ?_⟩, fun k7 => ?_⟩
      · -- a constructor
        have h56 : (tm_l t).1 = 5 ∨ (tm_l t).1 = 6 := by
          rcases tO.2.2.2 with q | q | q | q
          · have := hpk.1; omega
          · omega
          · omega
          · omega
        obtain ⟨c, hc, x1, x2, x3, x4, x5⟩ := vl_con ht0 h56
        obtain ⟨⟨T, hT, hcT, -⟩, ha0, ha3, -⟩ := hE.2.2.2.2.2.1 c hc
        have hnc : nwc F r (fx (J (r + 7)) m (tm_l t).2.2.2.2.1) = false := by
          cases hb' : nwc F r (fx (J (r + 7)) m (tm_l t).2.2.2.2.1)
          · rfl
          · exact absurd ⟨h56, hb'⟩ hn
        have hT0 : ¬ F (r + 2) T = 1 := by
          rw [x1] at hnc
          unfold nwc at hnc
          rw [Int.toNat_natCast, hcT, Int.toNat_natCast] at hnc
          simpa using hnc
        have eal : al (fx (J (r + 7)) m) (nwc F r) (n + 1) p t = (p, (c : Int)) :: ls_al (al (fx (J (r + 7)) m) (nwc F r) n) (4 * p + 1) (tm_k t) := by
          rw [al_u, if_neg n2, if_neg (by omega), if_neg n4, if_pos h56, if_neg (by rw [hnc]; simp), x1]
        -- what is seen is the value itself
        have hself := v5 (by
          cases nu with
          | zero => exact fun h => h
          | succ nu =>
          rintro ⟨hk1, hw1⟩
          obtain ⟨c2, hc2, y1, y2, -⟩ := vl_con hu0 hk1
          rw [y1] at hw1
          unfold nwc at hw1
          rw [Int.toNat_natCast, y2, ← x2, hcT, Int.toNat_natCast] at hw1
          exact hT0 (by simpa using hw1))
        have ew := hself
        have k56 : (tm_l u').1 = 5 ∨ (tm_l u').1 = 6 := by
          rcases v2.1 with q | q | q | q
          · exfalso
            have hf := v1.2.2.2.1
            unfold tf at hf
            rw [if_pos q] at hf
            have w6 : w' = 6 := by
              rcases Decidable.em (w' = 6) with e | e
              · exact e
              · rw [if_neg e] at hf; exact absurd hf (by simp)
            rw [ew, ← x2, hcT] at w6; omega
          · exact Or.inl q
          · exact Or.inr q
          · exact absurd q n7
        obtain ⟨c2, hc2, y1, y2, y3, y4, y5⟩ := vl_con v1 k56
        have gc : I1 (r + 22) i = (c : Int) := (hF1 _ _ (by omega) (by omega)).trans x3
        have gv : I1 26 k' = (c2 : Int) := (hF1 _ _ (by omega) (by omega)).trans y3
        refine ⟨k15, r + 22, am_rq (i := 15) hB hr rfl rfl, _, am_kq (i := 22) hB hr (by decide) rfl, ixi, am_nm_k gc ?_⟩
        rintro _ rfl _ _
        refine ⟨(am_kk hB rfl), 26, (am_rf hB rfl), _, (am_kk hB rfl), ixk, am_nm_k gv ?_⟩
        rintro _ rfl _ _
        refine ⟨fun ecc => ⟨(am_kk hB rfl), 27, (am_rf hB rfl), _, (am_kk hB rfl), ixk, am_nm_k (show I1 27 k' = (bif (tm_k u').isEmpty then -1 else ((k' + 1 : Nat) : Int)) from (hF1 _ _ (by omega) (by omega)).trans v1.1.2.2.2.2.2.2.1) ?_⟩, fun ecc => ?_⟩
        · have ec : c2 = c := by omega
          subst ec
          rintro _ rfl _ _
          refine am_ar_i (by omega) (by omega) (am_ar_i (by omega) (by omega) ⟨(am_kk hB rfl), e_Trial_tryList ?_⟩)
          rw [show (4 : Int) * (p : Int) + 1 = ((4 * p + 1 : Nat) : Int) by omega]
          have tls : ls_f (tf (fx (J (r + 7)) m) (F (r + 5)) (F (r + 6)) aT n) (tm_at n) (tm_l t).2.2.2.1 (fun i => aT (3 * c2 + i)) (F (r + 6) c2).toNat (tm_k t) = none ∧ ∀ x ∈ tm_k t, tm_ok n x := by
            rcases h56 with q | q
            · obtain ⟨a1, a2⟩ := x4 q
              rw [a1, a2]; exact ⟨rfl, fun x hx => absurd hx (by simp)⟩
            · exact x5 q
          have uls : ls_f (tf (fx (J (r + 7)) m) (F (r + 5)) (F (r + 6)) aT nu') (tm_at nu') (tm_l u').2.2.2.1 (fun i => aT (3 * c2 + i)) (F (r + 6) c2).toNat (tm_k u') = none ∧ ∀ x ∈ tm_k u', tm_ok nu' x := by
            rcases k56 with q | q
            · obtain ⟨a1, a2⟩ := y4 q
              rw [a1, a2]; exact ⟨rfl, fun x hx => absurd hx (by simp)⟩
            · exact y5 q
          obtain ⟨p1, p2, p3⟩ := prl_of _ _ _ _ tls.1 uls.1
          have lens : (ls_al (al (fx (J (r + 7)) m) (nwc F r) n) (4 * p + 1) (tm_k t)).length + 1 + L.length ≤ 60 := by
            rw [eal] at hl
            have : ((p, (c2 : Int)) :: ls_al (al (fx (J (r + 7)) m) (nwc F r) n) (4 * p + 1) (tm_k t)).length = (ls_al (al (fx (J (r + 7)) m) (nwc F r) n) (4 * p + 1) (tm_k t)).length + 1 := rfl
            omega
          refine hL (tm_k t) nu' (i + 1) (k' + 1) (4 * p + 1) 0 (d + 3) (tm_k u') (fun i => aT (3 * c2 + i)) (la L p) I1 _ _ _ (by omega) (by omega) hF1 q8 tG.2 tls.2 (fun x hx => hpk.2 x hx) (by omega) v1.1.2.2.2.2.2.2.2 v1.2.1.2 uls.2 (fun x hx => v2.2 x hx) (by omega) p1 (by omega) l1 (by show (la L p).length + (ls_al (al (fx (J (r + 7)) m) (nwc F r) n) (4 * p + 1) (tm_k t)).length ≤ 60; omega) hp4 (fun I2 res L2 hA => ⟨_, rfl, s_Trial_tryPat_256 (post I2 res L2 ?_)⟩)
          obtain ⟨a1, a2, a3, a4, a5⟩ := hA
          have a3 : L2.length ≤ (la L p).length + (ls_al (al (fx (J (r + 7)) m) (nwc F r) n) (4 * p + 1) (tm_k t)).length := a3
          refine ⟨tr_trans f1 a1, a2, ?_, a4, fun V hV => ?_⟩
          · rw [eal]
            show L2.length ≤ L.length + ((ls_al (al (fx (J (r + 7)) m) (nwc F r) n) (4 * p + 1) (tm_k t)).length + 1)
            omega
          · rw [eal, consA]
            rcases key V hV with q | q | q
            · exact absurd q.1 n7
            · exact absurd q.1 (by omega)
            · have vp : V p = (c2 : Int) := by rw [q.2.1, y1]
              rw [if_neg (by omega), if_neg (fun h => h.2 vp)]
              exact a5 V q.2.2
        · refine post I1 0 (la L p) ⟨f1, l1, ?_, Or.inr (Or.inl rfl), fun V hV => ?_⟩
          · rw [eal0]; show _ ≤ L.length + (B0.length + 1); omega
          · rw [eal, consA]
            rcases key V hV with q | q | q
            · exact absurd q.1 n7
            · exact absurd q.1 (by omega)
            · have vp : V p = (c2 : Int) := by rw [q.2.1, y1]
              rw [if_neg (by omega), if_pos ⟨by omega, by omega⟩]
      · -- a number
        have eal : al (fx (J (r + 7)) m) (nwc F r) (n + 1) p t = [(p, 100 + (tm_l t).2.2.2.2.2)] := by
          rw [al_u, if_neg n2, if_neg (by omega), if_pos k4]
        have w6 : w = 6 := by
          have hf := tF
          unfold tf at hf
          rw [if_pos k4] at hf
          rcases Decidable.em (w = 6) with e | e
          · exact e
          · rw [if_neg e] at hf; exact absurd hf (by simp)
        have t0 : 0 ≤ (tm_l t).2.2.2.2.2 := by
          rcases tO.2.2.2 with q | q | q | q
          · omega
          · exact q.2.2.1
          · omega
          · omega
        have hself := v5 (by
          cases nu with
          | zero => exact fun h => h
          | succ nu =>
          rintro ⟨hk1, hw1⟩
          obtain ⟨c2, hc2, y1, y2, -⟩ := vl_con hu0 hk1
          obtain ⟨⟨T2, hT2, hcT2, -⟩, -⟩ := hE.2.2.2.2.2.1 c2 hc2
          rw [hcT2] at y2
          omega)
        have ew := hself
        have u4 : (tm_l u').1 = 4 := by
          rcases v2.1 with q | q | q | q
          · exact q
          · exfalso
            obtain ⟨c2, hc2, y1, y2, -⟩ := vl_con v1 (Or.inl q)
            obtain ⟨⟨T2, hT2, hcT2, -⟩, -⟩ := hE.2.2.2.2.2.1 c2 hc2
            rw [hcT2, ew] at y2
            omega
          · exfalso
            obtain ⟨c2, hc2, y1, y2, -⟩ := vl_con v1 (Or.inr q)
            obtain ⟨⟨T2, hT2, hcT2, -⟩, -⟩ := hE.2.2.2.2.2.1 c2 hc2
            rw [hcT2, ew] at y2
            omega
          · exact absurd q n7
        have gn : I1 (r + 21) i = (tm_l t).2.2.2.2.2 := (hF1 _ _ (by omega) (by omega)).trans q6
        have gm : I1 25 k' = (tm_l u').2.2.2.2.2 := (hF1 _ _ (by omega) (by omega)).trans v1.1.2.2.2.2.2.1
        refine ⟨k15, r + 21, am_rq (i := 15) hB hr rfl rfl, _, am_kq (i := 21) hB hr (by decide) rfl, ixi, am_nm_k gn ?_⟩
        rintro _ rfl _ _
        refine ⟨(am_kk hB rfl), 25, (am_rf hB rfl), _, (am_kk hB rfl), ixk, am_nm_k gm ?_⟩
        rintro _ rfl _ _
        have vp : ∀ V : Nat → Int, vS (fx (J (r + 7)) m) (nwc F r) V nu p u → V p = 100 + (tm_l u').2.2.2.2.2 ∧ 0 ≤ (tm_l u').2.2.2.2.2 := by
          intro V hV
          rcases key V hV with q | q | q
          · exact absurd q.1 n7
          · exact q.2
          · exact absurd q.1 (by omega)
        have ln : (la L p).length ≤ L.length + (al (fx (J (r + 7)) m) (nwc F r) (n + 1) p t).length := by
          rw [eal]; show _ ≤ L.length + 1; omega
        refine ⟨fun hne => s_Trial_tryPat_214 (post I1 0 (la L p) ⟨f1, l1, ln, Or.inr (Or.inl rfl), fun V hV => ?_⟩), fun heq => s_Trial_tryPat_214 (post I1 1 (la L p) ⟨f1, l1, ln, Or.inl rfl, fun V hV => ?_⟩)⟩
        · have v := vp V hV
          rw [eal, consA, if_neg (by omega), if_pos ⟨by omega, by omega⟩]
        · have v := vp V hV
          rw [eal, consA, if_neg (by omega), if_neg (fun h => h.2 (by omega))]
          rfl
      · -- strict
        obtain ⟨x, hx⟩ := one (Or.inr (Or.inl k2))
        obtain ⟨kx1, kx2⟩ := kid x hx (by omega)
        have eal : al (fx (J (r + 7)) m) (nwc F r) (n + 1) p t = (p, -1) :: al (fx (J (r + 7)) m) (nwc F r) n p x := by
          rw [al_u, if_pos k2, hx]
          show (p, -1) :: (al _ _ n p x ++ []) = _
          rw [List.append_nil]
        rw [hx]
        have lens : (al (fx (J (r + 7)) m) (nwc F r) n p x).length + 1 + L.length ≤ 60 := by
          rw [eal] at hl
          have : ((p, (-1 : Int)) :: al (fx (J (r + 7)) m) (nwc F r) n p x).length = (al (fx (J (r + 7)) m) (nwc F r) n p x).length + 1 := rfl
          omega
        refine ⟨fun _ => ⟨(am_kk hB rfl), ?_⟩, fun h => absurd (show ((i + 1 : Nat) : Int) = -1 from h) (by omega)⟩
        refine hX nu (i + 1) k p (d + 3) x u w (la L p) I1 _ hnu (by omega) hF1 kx1 kx2 hu0 huk l1 (by omega) hp1 (fun I2 res L2 hA => ⟨_, rfl, s_Trial_tryPat_184 (post I2 res L2 ?_)⟩)
        obtain ⟨a1, a2, a3, a4, a5⟩ := hA
        refine ⟨tr_trans f1 a1, a2, ?_, a4, fun V hV => ?_⟩
        · rw [eal]
          show L2.length ≤ L.length + ((al (fx (J (r + 7)) m) (nwc F r) n p x).length + 1)
          omega
        · rw [eal, consA]
          have vn : V p ≠ -2 := by
            rcases key V hV with q | q | q
            · exact absurd q.1 n7
            · omega
            · obtain ⟨c2, hc2, y1, -⟩ := vl_con v1 q.1
              rw [q.2.1, y1]; omega
          rw [if_neg vn, if_neg (fun h => h.1 rfl)]
          exact a5 V hV
      · -- not there
        refine post I1 (-2) (la L p) ⟨f1, l1, ?_, Or.inr (Or.inr rfl), fun V hV => ?_⟩
        · rw [eal0]; show _ ≤ L.length + (B0.length + 1); omega
        · rw [eal0, consA]
          have vp : V p = -2 := by
            rcases key V hV with q | q | q
            · exact q.2
            · omega
            · omega
          rw [if_pos vp]
  · -- named
    obtain ⟨x, hx⟩ := one (Or.inr (Or.inr z3))
    obtain ⟨kx1, kx2⟩ := kid x hx (by omega)
    have eal : al (fx (J (r + 7)) m) (nwc F r) (n + 1) p t = al (fx (J (r + 7)) m) (nwc F r) n p x := by
      rw [al_u, if_neg (by omega), if_pos z3, hx]
      show al _ _ n p x ++ [] = _
      rw [List.append_nil]
    rw [hx]
    refine ⟨fun _ => ⟨(am_kk hB rfl), ?_⟩, fun h => absurd (show ((i + 1 : Nat) : Int) = -1 from h) (by omega)⟩
    refine hX nu (i + 1) k p (d + 3) x u w L I _ hnu (by omega) hF kx1 kx2 hu0 huk hLk (by rw [← eal]; exact hl) hp1 (fun I2 res L2 hA => ⟨_, rfl, s_Trial_tryPat_65 (post I2 res L2 ?_)⟩)
    rw [eal]; exact hA
  · rw [al_u, if_neg (by omega), if_neg (by omega), if_neg (by omega), if_neg (by omega)]
theorem xp_all (hB : am_B K R) (hr : r = 41 ∨ r = 71) (hE : rE F aT W r s N m wd) (hTy : tyS F r N m) : ∀ n : Nat, xp_P n0 K F J R aT r m n := by
  intro n
  induction n with
  | zero => intro nu i k p D t u w L I Q _ _ _ h; exact h.2.2.1.elim
  | succ n ih => exact xp_step n hB hr hE hTy ih (xp_list n hB hr ih)
end XPS
