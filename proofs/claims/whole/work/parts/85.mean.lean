/-! MEANING: the class looks for a fault in terms -/
theorem xe_fr {g cT ar aT : Nat → Int} {r m b : Nat} {I I' J : Nat → Nat → Int} (hb : b = 19 ∨ b = r + 15) (hr : r = 41 ∨ r = 71) (h : xe g cT ar aT r m I J) (hf : ∀ x j : Nat, x ≠ b + 7 → I' x j = I x j) : xe g cT ar aT r m I' J := by
  obtain ⟨h1, h2, h3, h4, h5⟩ := h
  exact ⟨(hf _ _ (by omega)).trans h1, (funext fun j => hf _ _ (by omega)).trans h2, (funext fun j => hf _ _ (by omega)).trans h3, (funext fun j => hf _ _ (by omega)).trans h4, h5⟩
section XFG
variable {g cT ar aT : Nat → Int} {r m : Nat}
theorem xg_list (n : Nat) (hX : xg_T g cT ar aT r m n) : xg_L g cT ar aT r m n := by
  intro n0 K R Q b a3 len fr many e x2 J D hB hr hb hm har hK3 ha3 hlen hl2 hD ts
  obtain ⟨d, rfl⟩ : ∃ d, D = d + 1 := ⟨D - 1, by omega⟩
  have hb' : ft_b b := by unfold ft_b; omega
  have k0 : K r = .inl 5 := am_kq (i := 0) hB hr (by decide) rfl
  have kb : K b = .inl 7 := am_kb (i := 0) hB hb' (by decide) rfl
  induction ts with
  | nil =>
    intro k i I W hk hW hH ho h60 he post
    refine s_Rules_findFaultInList_6 ⟨fun hle => ⟨fun h => absurd rfl h, fun _ => s_Rules_findFaultInList_79 ?_⟩, fun hlt => ⟨fun h => absurd rfl h, fun _ => ?_⟩⟩
    · have em : many - k = 0 := by omega
      have := post I (fun _ _ _ => rfl) (fun _ => trivial)
      rw [em] at this
      exact this
    · obtain ⟨q, em⟩ : ∃ q, many - k = q + 1 := ⟨many - k - 1, by omega⟩
      have := post I (fun _ _ _ => rfl) (fun _ => trivial)
      rw [em] at this
      exact this
  | cons t ts ih =>
    intro k i I W hk hW hH ho h60 he post
    obtain ⟨h1, h2, h3⟩ := hH
    have ez : ls_sz (tm_sz n) (t :: ts) = tm_sz n t + ls_sz (tm_sz n) ts := rfl
    have pt := tm_sz_pos n t
    have ht := ho t List.mem_cons_self
    refine s_Rules_findFaultInList_6 ⟨fun hle => ⟨fun _ => ⟨kb, b + 2, am_rb hB hb' rfl rfl, _, am_kb hB hb' (by decide) rfl, ⟨by show (0 : Int) ≤ (i : Int); omega, by show (i : Int) < _; omega⟩, ?_⟩, fun h => absurd (show (i : Int) = -1 from h) (by omega)⟩, fun hlt => ⟨fun _ => am_ar_i (by omega) (by omega) ?_, fun h => absurd (show (i : Int) = -1 from h) (by omega)⟩⟩
    · have em : many - k = 0 := by omega
      have ea : I (b + 2) i = tm_at n t := by
        cases n with
        | zero => exact h1.elim
        | succ n => exact h1.2.1
      refine am_nm_k ea ?_
      rintro _ rfl _ _
      refine s_Rules_findFaultInList_79 ?_
      have := post I (fun _ _ _ => rfl) (fun h => by rw [em] at h; exact absurd h (by simp [ls_f]))
      rw [em] at this
      exact this
    · obtain ⟨q, em⟩ : ∃ q, many - k = q + 1 := ⟨many - k - 1, by omega⟩
      have e4 : (fr : Int) + (k : Int) = ((fr + k : Nat) : Int) := by omega
      rw [e4]
      have eW : I a3 (fr + k) = W 0 := by
        have := hW 0 (by omega)
        exact this
      refine ⟨_, hK3, ⟨by omega, by omega⟩, am_nm_k eW ?_⟩
      rintro _ rfl _ _
      refine ⟨k0, hX n0 K I J R _ b i (W 0) t d hB hr hb h1 ht (by omega) he hm har (by omega) (fun I1 f1 p1 => ⟨_, rfl, ?_⟩)⟩
      have el : ls_f (tf (fx g m) cT ar aT n) (tm_at n) e W (many - k) (t :: ts) = oe (tf (fx g m) cT ar aT n (W 0) t) (ls_f (tf (fx g m) cT ar aT n) (tm_at n) e (fun i => W (i + 1)) q ts) := by rw [em]; rfl
      rcases hc : tf (fx g m) cT ar aT n (W 0) t with _ | k'
      · rw [hc] at el
        have el : ls_f (tf (fx g m) cT ar aT n) (tm_at n) e W (many - k) (t :: ts) = ls_f (tf (fx g m) cT ar aT n) (tm_at n) e (fun i => W (i + 1)) q ts := el
        refine s_Rules_findFaultInList_36 ⟨fun _ => ⟨kb, b + 9, am_rb hB hb' rfl rfl, _, am_kb hB hb' (by decide) rfl, ⟨by show (0 : Int) ≤ (i : Int); omega, by show (i : Int) < _; omega⟩, am_nm_k ((f1 _ _ (by omega)).trans h2) ?_⟩, fun h => absurd rfl h⟩
        rintro _ rfl _ _
        refine am_ar_i (by omega) (by omega) ?_
        have eq : many - (k + 1) = q := by omega
        have gg := ih (k + 1) (i + tm_sz n t) I1 (fun i => W (i + 1)) (by omega) (fun z hz => ?_) ?_ (fun u hu => ho u (List.mem_cons_of_mem _ hu)) (by omega) (xe_fr hb hr he (fun x j h => f1 x j (by omega))) (fun I2 f2 p2 => ?_)
        · exact am_WP.forget gg _ (am_le_eq (am_le_eq (am_le_eq (am_le_eq (am_le_eq (am_le_eq (am_le_eq (am_le_eq (am_le_eq (am_le_o am_le_nil))))))))))
        · rw [f1 _ _ (by omega)]
          have := hW (z + 1) (by omega)
          rw [show fr + (k + 1) + z = fr + k + (z + 1) by omega]
          exact this
        · exact ft_HL_frame h3 (fun x j a1 a2 a3 a4 => f1 x j (by omega)) (fun _ _ _ => rfl)
        · rw [eq] at p2 ⊢
          have := post I2 (fun x j h => (f2 x j (by omega)).trans (f1 x j (by omega))) (fun hn => ⟨ft_G_fr n i t (p1 hc) (fun j a1 a2 => f2 _ _ (by omega)), p2 (el.symm.trans hn)⟩)
          rw [el] at this
          exact this
      · rw [hc] at el
        have el : ls_f (tf (fx g m) cT ar aT n) (tm_at n) e W (many - k) (t :: ts) = some k' := el
        have nn := tf_nn n (W 0) t ht hc
        refine s_Rules_findFaultInList_36 ⟨fun h => absurd (show k' = -1 from h) (by omega), fun _ => ?_⟩
        have := post I1 (fun x j h => f1 x j (by omega)) (fun hn => absurd (el.symm.trans hn) (by simp))
        rw [el] at this
        exact this
theorem xg_term (n : Nat) (hX : xg_T g cT ar aT r m n) (hL : xg_L g cT ar aT r m n) : xg_T g cT ar aT r m (n + 1) := by
  intro n0 K I J R Q b i w t D hB hr hb hH ho h60 he hm har hD post
  obtain ⟨d, rfl⟩ : ∃ d, D = d + 1 := ⟨D - 1, by omega⟩
  have hb' : ft_b b := by unfold ft_b; omega
  have nb : am_nc ≤ b := by unfold am_nc; omega
  have k0 : K r = .inl 5 := am_kq (i := 0) hB hr (by decide) rfl
  have k1 : K (r + 1) = .inl 10 := am_kq (i := 1) hB hr (by decide) rfl
  have kb : K b = .inl 7 := am_kb (i := 0) hB hb' (by decide) rfl
  have he0 := he
  obtain ⟨e1, e2, e3, e4, e5⟩ := he
  have ez : tm_sz (n + 1) t = 1 + ls_sz (tm_sz n) (tm_k t) := rfl
  obtain ⟨h1, h2, h3, h4, h5, h6, h7, h8⟩ := hH
  have ho' := ho
  obtain ⟨o1, o2, o3, o4⟩ := ho
  have ix : (0 : Int) ≤ (i : Int) ∧ (i : Int) < ((60 : Nat) : Int) := ⟨by omega, by omega⟩
  have et : tf (fx g m) cT ar aT (n + 1) w t = (if (tm_l t).1 = 4 then (if w = 6 then none else some (tm_l t).2.1)
    else if (tm_l t).1 = 5 ∨ (tm_l t).1 = 6 then
      (if fx g m (tm_l t).2.2.2.2.1 = -1 ∨ cT (fx g m (tm_l t).2.2.2.2.1).toNat ≠ w then some (tm_l t).2.2.1
      else if (tm_l t).1 = 5 then (if ar (fx g m (tm_l t).2.2.2.2.1).toNat = 0 then none else some (tm_l t).2.2.1)
      else ls_f (tf (fx g m) cT ar aT n) (tm_at n) (tm_l t).2.2.2.1 (fun i => aT (3 * (fx g m (tm_l t).2.2.2.2.1).toNat + i)) (ar (fx g m (tm_l t).2.2.2.2.1).toNat).toNat (tm_k t))
    else match tm_k t with
      | [] => none
      | k :: _ => tf (fx g m) cT ar aT n w k) := rfl
  refine e_Rules_findFaultInTerm ⟨kb, b + 1, am_rb hB hb' rfl rfl, _, am_kb hB hb' (by decide) rfl, ix, am_nm_k h1 ?_⟩
  rintro _ rfl _ _
  refine ⟨fun n4 => ⟨kb, ?_⟩, fun k4 => ⟨fun w6 => ⟨kb, b + 2, am_rb hB hb' rfl rfl, _, am_kb hB hb' (by decide) rfl, ix, am_nm_k h2 ?_⟩, fun w6 => s_Rules_findFaultInTerm_26 ?_⟩⟩
  · rw [if_neg n4] at et
    have isC : ∀ (Q' : am_Q) (d' : Nat), ((tm_l t).1 = 5 ∨ (tm_l t).1 = 6 → Q' (some (.inl 1)) (n0, K, I, J, R)) → (¬ ((tm_l t).1 = 5 ∨ (tm_l t).1 = 6) → Q' (some (.inl 0)) (n0, K, I, J, R)) → am_WP d' (am_entry 137 [.inr (.inl b), .inl (i : Int)] (n0, K, I, J, R)) Q' := by
      intro Q' d' yes no
      refine e_Terms_isCon ⟨kb, b + 1, am_rb hB hb' rfl rfl, _, am_kb hB hb' (by decide) rfl, ix, am_nm_k h1 ?_⟩
      rintro _ rfl _ _
      refine ⟨fun k5 => s_Terms_isCon_26 ⟨Or.inr rfl, yes (Or.inl k5)⟩, fun n5 => ⟨kb, b + 1, am_rb hB hb' rfl rfl, _, am_kb hB hb' (by decide) rfl, ix, am_nm_k h1 ?_⟩⟩
      rintro _ rfl _ _
      exact ⟨fun n6 => s_Terms_isCon_26 ⟨Or.inl rfl, no (by omega)⟩, fun k6 => s_Terms_isCon_26 ⟨Or.inr rfl, yes (Or.inr k6)⟩⟩
    refine isC _ _ (fun k56 => ⟨_, rfl, s_Rules_findFaultInTerm_32 ⟨fun _ => ⟨k0, r + 1, am_rq (i := 0) hB hr rfl rfl, kb, b + 5, am_rb hB hb' rfl rfl, _, by omega, am_kb hB hb' (by decide) rfl, ix, am_nl_k h5 ?_⟩, fun h => absurd h (by decide)⟩⟩) (fun n56 => ⟨_, rfl, s_Rules_findFaultInTerm_32 ⟨fun h => absurd rfl h, fun _ => ⟨kb, b + 8, am_rb hB hb' rfl rfl, _, am_kb hB hb' (by decide) rfl, ix, am_nm_k h7 ?_⟩⟩⟩)
    · rw [if_pos k56] at et
      rintro _ rfl _ _
      refine ⟨k1, x_conOf (m := m) hB hr e1 hm ⟨_, rfl, ?_⟩⟩
      rw [e5]
      rcases fx_cases g (tm_l t).2.2.2.2.1 m with ⟨x1, -⟩ | ⟨c, hc, x1, -, -⟩
      · rw [x1] at et ⊢
        rw [if_pos (Or.inl rfl)] at et
        refine s_Rules_findFaultInTerm_75 ⟨fun _ => ⟨kb, b + 3, am_rb hB hb' rfl rfl, _, am_kb hB hb' (by decide) rfl, ix, am_nm_k h3 ?_⟩, fun h => absurd rfl h⟩
        rintro _ rfl _ _
        have := post I (fun _ _ _ => rfl) (fun h => absurd (et.symm.trans h) (by simp))
        rw [et] at this
        exact this
      · have ac := har c hc
        rw [x1] at et ⊢
        rw [Int.toNat_natCast] at et
        have cx : (0 : Int) ≤ (c : Int) ∧ (c : Int) < ((36 : Nat) : Int) := ⟨by omega, by omega⟩
        refine s_Rules_findFaultInTerm_75 ⟨fun h => absurd h (by omega), fun _ => ⟨k0, r + 1, am_rq (i := 0) hB hr rfl rfl, k1, r + 5, am_rq (i := 1) hB hr rfl rfl, _, am_kq hB hr (by decide) rfl, cx, am_nm_k (congrFun e2 c) ?_⟩⟩
        rintro _ rfl _ _
        refine ⟨fun hw => ⟨kb, b + 7, am_rb hB hb' rfl rfl, _, by omega, am_kb hB hb' (by decide) rfl, ix, kb, b + 1, am_rb hB hb' rfl rfl, _, am_kb hB hb' (by decide) rfl, ix, am_nm_k ((am_u_ne (by omega)).trans h1) ?_⟩, fun hw => ⟨kb, b + 3, am_rb hB hb' rfl rfl, _, am_kb hB hb' (by decide) rfl, ix, am_nm_k h3 ?_⟩⟩
        · rw [if_neg (by rintro (q | q); · omega
                         · exact q hw)] at et
          rintro _ rfl _ _
          have ff : ∀ x j : Nat, ¬ (x = b + 7 ∧ i ≤ j ∧ j < i + tm_sz (n + 1) t) → am_u I (b + 7) i (c : Int) x j = I x j := fun x j h => am_u_off (by omega)
          refine ⟨fun n5 => ⟨kb, b + 8, am_rb hB hb' rfl rfl, _, am_kb hB hb' (by decide) rfl, ix, am_nm_k ((am_u_ne (by omega)).trans h7) ?_⟩, fun k5 => ⟨k0, r + 1, am_rq (i := 0) hB hr rfl rfl, k1, r + 6, am_rq (i := 1) hB hr rfl rfl, _, am_kq hB hr (by decide) rfl, cx, am_nm_k ((am_u_ne (by omega)).trans (congrFun e3 c)) ?_⟩⟩
          · rw [if_neg n5] at et
            have k6 : (tm_l t).1 = 6 := by omega
            obtain ⟨a, ha⟩ : ∃ a : Nat, ar c = (a : Int) := ⟨(ar c).toNat, by omega⟩
            rintro _ rfl _ _
            refine ⟨k0, r + 1, am_rq (i := 0) hB hr rfl rfl, k1, r + 8, am_rq (i := 1) hB hr rfl rfl, am_ar_i (by omega) (by omega) ⟨k0, r + 1, am_rq (i := 0) hB hr rfl rfl, k1, r + 6, am_rq (i := 1) hB hr rfl rfl, _, am_kq hB hr (by decide) rfl, cx, am_nm_k ((am_u_ne (by omega)).trans ((congrFun e3 c).trans ha)) ?_⟩⟩
            rintro _ rfl _ _
            refine ⟨kb, b + 4, am_rb hB hb' rfl rfl, _, am_kb hB hb' (by decide) rfl, ix, am_nm_k ((am_u_ne (by omega)).trans h4) ?_⟩
            rintro _ rfl _ _
            rw [show (c : Int) * 3 = ((3 * c : Nat) : Int) by omega]
            have hok : ∀ k ∈ tm_k t, tm_ok n k := by
              rcases o4 with q | q | q | q
              · omega
              · omega
              · omega
              · exact q.2.2
            have fu : ∀ x j : Nat, ¬ (x = b + 7 ∧ j = i) → am_u I (b + 7) i (c : Int) x j = I x j := fun x j h => am_u_off h
            refine ⟨k0, e_Rules_findFaultInList ?_⟩
            refine hL n0 K R _ b (r + 8) 108 (3 * c) a (tm_l t).2.2.2.1 _ J d hB hr hb hm har (am_kq hB hr (by decide) rfl) (by omega) (by omega) (by decide) (by omega) (tm_k t) 0 (i + 1) _ (fun z => aT (3 * c + z)) (Nat.zero_le _) (fun z hz => ?_) ?_ hok (by omega) (xe_fr hb hr he0 (fun x j h => am_u_ne h)) (fun I2 f2 p2 => ⟨_, rfl, s_Rules_findFaultInTerm_184 ?_⟩)
            · exact (fu (r + 8) (3 * c + 0 + z) (by omega)).trans (by rw [Nat.add_zero]; exact congrFun e4 _)
            · exact ft_HL_frame h8 (fun x j a1 a2 a3 a4 => fu x j (by omega)) (fun _ _ _ => rfl)
            · rw [Nat.sub_zero] at p2 ⊢
              rw [ha, Int.toNat_natCast] at et
              have := post I2 (fun x j h => (f2 x j (by omega)).trans (ff x j h)) (fun hn => ⟨fun _ => ?_, p2 (et.symm.trans hn)⟩)
              · rw [et] at this
                exact this
              · rw [f2 _ _ (by omega), x1]; exact am_u_kk
          · rw [if_pos k5] at et
            have hkn : tm_k t = [] := by
              rcases o4 with q | q | q | q
              · exact q.2
              · exact q.2.1
              · omega
              · omega
            have hG : ft_G (am_u I (b + 7) i (c : Int)) b (fx g m) (n + 1) i t := ⟨fun _ => by rw [x1]; exact am_u_kk, by rw [hkn]; exact trivial⟩
            rintro _ rfl _ _
            refine ⟨fun na => ⟨kb, b + 3, am_rb hB hb' rfl rfl, _, am_kb hB hb' (by decide) rfl, ix, am_nm_k ((am_u_ne (by omega)).trans h3) ?_⟩, fun za => s_Rules_findFaultInTerm_145 ?_⟩
            · rintro _ rfl _ _
              rw [if_neg na] at et
              refine s_Rules_findFaultInTerm_145 ?_
              have := post _ ff (fun h => absurd (et.symm.trans h) (by simp))
              rw [et] at this
              exact this
            · rw [if_pos za] at et
              have := post _ ff (fun _ => hG)
              rw [et] at this
              exact this
        · rintro _ rfl _ _
          rw [if_pos (Or.inr hw)] at et
          have := post I (fun _ _ _ => rfl) (fun h => absurd (et.symm.trans h) (by simp))
          rw [et] at this
          exact this
    · rw [if_neg n56] at et
      rintro _ rfl _ _
      rcases hk : tm_k t with _ | ⟨u, us⟩
      · rw [hk] at et
        have et : tf (fx g m) cT ar aT (n + 1) w t = none := et
        refine ⟨fun h => absurd rfl h, fun _ => s_Rules_findFaultInTerm_61 ?_⟩
        have := post I (fun _ _ _ => rfl) (fun _ => ⟨fun q => absurd q n56, by rw [hk]; exact trivial⟩)
        rw [et] at this
        exact this
      · rw [hk] at et h8
        have et : tf (fx g m) cT ar aT (n + 1) w t = tf (fx g m) cT ar aT n w u := et
        have huk : us = [] ∧ tm_ok n u := by
          rcases o4 with q | q | q | q
          · rw [hk] at q; exact absurd q.2 (by simp)
          · omega
          · obtain ⟨_, v, e, hv⟩ := q
            rw [hk] at e
            have e9 := List.cons.inj e
            rw [e9.1]; exact ⟨e9.2, hv⟩
          · omega
        have esz : tm_sz (n + 1) t = 1 + (tm_sz n u + ls_sz (tm_sz n) us) := by rw [ez, hk]; rfl
        refine ⟨fun _ => ⟨k0, ?_⟩, fun h => absurd (show ((i + 1 : Nat) : Int) = -1 from h) (by omega)⟩
        refine hX n0 K I J R _ b (i + 1) w u d hB hr hb h8.1 huk.2 (by omega) he0 hm har (by omega) (fun I2 f2 p2 => ⟨_, rfl, s_Rules_findFaultInTerm_61 ?_⟩)
        have := post I2 (fun x j h => f2 x j (by omega)) (fun hn => ⟨fun q => absurd q n56, by rw [hk, huk.1]; exact ⟨p2 (et.symm.trans hn), trivial⟩⟩)
        rw [et] at this
        exact this
  · rw [if_pos k4, if_neg w6] at et
    rintro _ rfl _ _
    refine s_Rules_findFaultInTerm_26 ?_
    have := post I (fun _ _ _ => rfl) (fun h => absurd (et.symm.trans h) (by simp))
    rw [et] at this
    exact this
  · rw [if_pos k4, if_pos w6] at et
    have hkn : tm_k t = [] := by
      rcases o4 with q | q | q | q
      · exact q.2
      · exact q.2.1
      · omega
      · omega
    have := post I (fun _ _ _ => rfl) (fun _ => ⟨fun q => by omega, by rw [hkn]; exact trivial⟩)
    rw [et] at this
    exact this
theorem xg_all : ∀ n : Nat, xg_T g cT ar aT r m n ∧ xg_L g cT ar aT r m n := by
  intro n
  induction n with
  | zero =>
    have h0 : xg_T g cT ar aT r m 0 := fun _ _ _ _ _ _ _ _ _ _ _ _ _ _ h => h.elim
    exact ⟨h0, xg_list 0 h0⟩
  | succ n ih =>
    have h1 := xg_term n ih.1 ih.2
    exact ⟨h1, xg_list (n + 1) h1⟩
end XFG
