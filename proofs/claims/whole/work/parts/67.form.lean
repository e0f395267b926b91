def xt_ok (kd pl nu nm : Nat → Int) (c : Nat) (v : Bool) (b n m i : Nat) (I J I' J' : Nat → Nat → Int) (t : tm n) (j : Nat) : Prop := ft_sp kd pl nu nm v n i t j ∧ m + tm_sz n t ≤ 60 ∧ j ≤ c ∧ I' 13 7 = (j : Int) ∧ I' b 0 = ((m + tm_sz n t : Nat) : Int) ∧ ft_fr b m I I' J J' ∧ ft_H I' J' b n m t ∧ I' (b + 9) m = -1
def xt_bad (kd pl nu nm : Nat → Int) (c : Nat) (v : Bool) (b n m i : Nat) (I J I' J' : Nat → Nat → Int) (k : Nat) : Prop := ft_bd kd pl nu nm v n i m k ∧ k ≤ c ∧ I' 13 7 = (k : Int) ∧ ft_fr b m I I' J J'
def xl_ok (kd pl nu nm : Nat → Int) (c : Nat) (v : Bool) (b n m i : Nat) (I J I' J' : Nat → Nat → Int) (ts : List (tm n)) (j : Nat) : Prop := ts ≠ [] ∧ ls_sp (ft_sp kd pl nu nm v n) i ts j ∧ ft_le (kd j) ∧ m + ls_sz (tm_sz n) ts ≤ 60 ∧ j ≤ c ∧ I' 13 7 = (j : Int) ∧ I' b 0 = ((m + ls_sz (tm_sz n) ts : Nat) : Int) ∧ ft_fr b m I I' J J' ∧ ls_H (ft_H I' J' b n) (tm_sz n) (I' (b + 9)) m ts
def xl_bad (kd pl nu nm : Nat → Int) (c : Nat) (v : Bool) (b n m i : Nat) (I J I' J' : Nat → Nat → Int) (k : Nat) : Prop := ft_bl kd pl nu nm v n i m k ∧ k ≤ c ∧ I' 13 7 = (k : Int) ∧ ft_fr b m I I' J J'
def xt_v (v : Bool) : Int := bif v then 1 else 0
def xt_T (n : Nat) : Prop := ∀ (n0 : Nat) (K : Nat → am_K) (I J : Nat → Nat → Int) (R : Nat → Nat → Option Nat) (Q : am_Q) (kd pl nu nm : Nat → Int) (c i b m : Nat) (v : Bool) (D : Nat), am_B K R → ft_b b → ft_T I J kd pl nu nm c → I 13 7 = (i : Int) → i ≤ c → I b 0 = (m : Int) → m ≤ 60 → 4 * n + 6 ≤ D → (∀ (I' J' : Nat → Nat → Int) (t : tm n) (j : Nat), xt_ok kd pl nu nm c v b n m i I J I' J' t j → Q (some (.inl (m : Int))) (n0, K, I', J', R)) → (∀ (I' J' : Nat → Nat → Int) (k : Nat), xt_bad kd pl nu nm c v b n m i I J I' J' k → Q (some (.inl (-1))) (n0, K, I', J', R)) → am_WP D (am_entry 96 [.inr (.inl 12), .inr (.inl b), .inl (xt_v v), .inl (7 - (n : Int))] (n0, K, I, J, R)) Q
def xt_L (n : Nat) : Prop := ∀ (n0 : Nat) (K : Nat → am_K) (I J : Nat → Nat → Int) (R : Nat → Nat → Option Nat) (Q : am_Q) (kd pl nu nm : Nat → Int) (c i b m : Nat) (v : Bool) (D : Nat), am_B K R → ft_b b → ft_T I J kd pl nu nm c → I 13 7 = (i : Int) → i ≤ c → I b 0 = (m : Int) → m ≤ 60 → 4 * n + 7 ≤ D → (∀ (I' J' : Nat → Nat → Int) (ts : List (tm n)) (j : Nat), xl_ok kd pl nu nm c v b n m i I J I' J' ts j → Q (some (.inl (m : Int))) (n0, K, I', J', R)) → (∀ (I' J' : Nat → Nat → Int) (k : Nat), xl_bad kd pl nu nm c v b n m i I J I' J' k → Q (some (.inl (-1))) (n0, K, I', J', R)) → am_WP D (am_entry 94 [.inr (.inl 12), .inr (.inl b), .inl (xt_v v), .inl (7 - (n : Int))] (n0, K, I, J, R)) Q
theorem xt_zero : xt_T 0 := by
  intro n0 K I J R Q kd pl nu nm c i b m v D hB hb hT hi hc hm hm2 hD ok bad
  obtain ⟨d, rfl⟩ : ∃ d, D = d + 1 := ⟨D - 1, by omega⟩
  exact e_Form_readTerm ⟨fun _ => bad I J i ⟨rfl, hc, hi, ft_fr_refl⟩, fun h => absurd h (by omega)⟩
theorem ls_len {n : Nat} : ∀ ts : List (tm n), ts.length ≤ ls_sz (tm_sz n) ts := by
  intro ts
  induction ts with
  | nil => exact Nat.le_refl _
  | cons t ts ih =>
    have := tm_sz_pos n t
    show ts.length + 1 ≤ tm_sz n t + ls_sz (tm_sz n) ts
    omega
theorem xt_list (n : Nat) (hX : xt_T n) : xt_L n := by
  intro n0 K I J R Q kd pl nu nm c i b m v D hB hb hT hi hc hm hm2 hD ok bad
  obtain ⟨d, rfl⟩ : ∃ d, D = d + 2 := ⟨D - 2, by omega⟩
  have b13 : 13 < b := by unfold ft_b at hb; omega
  have k0 : K b = .inl 7 := am_kb (i := 0) hB hb (by decide) rfl
  have loop : ∀ (w : Nat) (ts : List (tm n)) (u : tm n) (j : Nat) (I1 J1 : Nat → Nat → Int), 60 ≤ m + ls_sz (tm_sz n) (ts ++ [u]) + w → ls_sp (ft_sp kd pl nu nm v n) i (ts ++ [u]) j → m + ls_sz (tm_sz n) (ts ++ [u]) ≤ 60 → j ≤ c → I1 13 7 = (j : Int) → I1 b 0 = ((m + ls_sz (tm_sz n) (ts ++ [u]) : Nat) : Int) → ft_fr b m I I1 J J1 → ls_H (ft_H I1 J1 b n) (tm_sz n) (I1 (b + 9)) m (ts ++ [u]) → am_WP (d + 2) (94, 16, [.inr (.inl 12), .inr (.inl b), .inl (xt_v v), .inl (7 - (n : Int)), .inl (m : Int), .inl ((m + ls_sz (tm_sz n) ts : Nat) : Int), .inl (ts.length : Int), am_o], [], (0, 0), n0, K, I1, J1, R) Q := by
    intro w
    induction w with
    | zero =>
      intro ts u j I1 J1 hw hs h60 hj hi1 hc1 hf hH
      have hT1 := ft_T_fr hb hT hf
      have hll := ls_len ts
      have hap := ls_sz_app (f := tm_sz n) ts [u]
      have pu : ls_sz (tm_sz n) [u] = tm_sz n u := by simp [ls_sz]
      have pu2 := tm_sz_pos n u
      have out : ft_le (kd j) → (((m + ls_sz (tm_sz n) ts : Nat) : Int) ≠ (-1) → am_WP (d + 2) (94, 76, [.inr (.inl 12), .inr (.inl b), .inl (xt_v v), .inl (7 - (n : Int)), .inl (m : Int), .inl ((m + ls_sz (tm_sz n) ts : Nat) : Int), .inl (ts.length : Int), am_o], [.inl (m : Int)], (0, 0), n0, K, I1, J1, R) Q) ∧ (((m + ls_sz (tm_sz n) ts : Nat) : Int) = (-1) → am_WP (d + 2) (94, 76, [.inr (.inl 12), .inr (.inl b), .inl (xt_v v), .inl (7 - (n : Int)), .inl (m : Int), .inl ((m + ls_sz (tm_sz n) ts : Nat) : Int), .inl (ts.length : Int), am_o], [.inl (-1)], (0, 0), n0, K, I1, J1, R) Q) :=
        fun hle => ⟨fun _ => s_Form_readList_76 (ok I1 J1 (ts ++ [u]) j ⟨by simp, hs, hle, h60, hj, hi1, hc1, hf, hH⟩), fun h => absurd h (by omega)⟩
      refine s_Form_readList_16 ⟨fun h => absurd h (by omega), fun _ => ⟨fun h => absurd h (by omega), fun _ => ⟨(am_kk hB rfl), x_ale hB hT1 hi1 hj (fun hle => ⟨_, rfl, s_Form_readList_33 ⟨fun _ => out hle, fun h => absurd h (by decide)⟩⟩) (fun hle => ⟨_, rfl, s_Form_readList_33 ⟨fun h => absurd rfl h, fun _ => ⟨(am_kk hB rfl), ?_⟩⟩⟩)⟩⟩⟩
      refine hX n0 K I1 J1 R _ kd pl nu nm c j b (m + ls_sz (tm_sz n) (ts ++ [u])) v (d + 1) hB hb hT1 hi1 hj hc1 h60 (by omega) (fun I2 J2 t j2 ht => ?_) (fun I2 J2 k hk => ⟨_, rfl, ?_⟩)
      · have := ht.2.1
        have := tm_sz_pos n t
        omega
      · refine s_Form_readList_43 ⟨k0, _, am_rb hB hb rfl rfl, _, by unfold am_nc; omega, am_kb hB hb (by decide) rfl, ⟨by omega, by omega⟩, am_ar_i (by omega) (by omega) (am_WP.forget (ls := [.inr (.inl 12), .inr (.inl b), .inl (xt_v v), .inl (7 - (n : Int)), .inl (m : Int), .inl (-1), .inl ((ts.length : Int) + 1), am_o]) ?_ _ (am_le_eq (am_le_eq (am_le_eq (am_le_eq (am_le_eq (am_le_eq (am_le_eq (am_le_o am_le_nil)))))))))⟩
        have fin : ∀ y : Int, am_WP (d + 2) (94, 76, [.inr (.inl 12), .inr (.inl b), .inl (xt_v v), .inl (7 - (n : Int)), .inl (m : Int), .inl (-1), .inl y, am_o], [.inl (-1)], (0, 0), n0, K, am_u I2 (b + 9) (m + ls_sz (tm_sz n) ts) (-1), J2, R) Q := fun y => s_Form_readList_76 (bad _ J2 k ⟨⟨ts ++ [u], j, hs, h60, fun _ => hle, hk.1⟩, hk.2.1, (am_u_ne (by omega)).trans hk.2.2.1, ft_fr_trans (ft_fr_trans hf hk.2.2.2 (by omega)) (ft_fr_up (by omega) (by omega) (by omega)) (Nat.le_refl _)⟩)
        exact s_Form_readList_16 ⟨fun _ => ⟨fun h => absurd rfl h, fun _ => fin _⟩, fun _ => ⟨fun _ => ⟨fun h => absurd rfl h, fun _ => fin _⟩, fun h => absurd rfl h⟩⟩
    | succ w ih =>
      intro ts u j I1 J1 hw hs h60 hj hi1 hc1 hf hH
      have hT1 := ft_T_fr hb hT hf
      have hll := ls_len ts
      have hap := ls_sz_app (f := tm_sz n) ts [u]
      have pu : ls_sz (tm_sz n) [u] = tm_sz n u := by simp [ls_sz]
      have pu2 := tm_sz_pos n u
      have out : ft_le (kd j) → (((m + ls_sz (tm_sz n) ts : Nat) : Int) ≠ (-1) → am_WP (d + 2) (94, 76, [.inr (.inl 12), .inr (.inl b), .inl (xt_v v), .inl (7 - (n : Int)), .inl (m : Int), .inl ((m + ls_sz (tm_sz n) ts : Nat) : Int), .inl (ts.length : Int), am_o], [.inl (m : Int)], (0, 0), n0, K, I1, J1, R) Q) ∧ (((m + ls_sz (tm_sz n) ts : Nat) : Int) = (-1) → am_WP (d + 2) (94, 76, [.inr (.inl 12), .inr (.inl b), .inl (xt_v v), .inl (7 - (n : Int)), .inl (m : Int), .inl ((m + ls_sz (tm_sz n) ts : Nat) : Int), .inl (ts.length : Int), am_o], [.inl (-1)], (0, 0), n0, K, I1, J1, R) Q) :=
        fun hle => ⟨fun _ => s_Form_readList_76 (ok I1 J1 (ts ++ [u]) j ⟨by simp, hs, hle, h60, hj, hi1, hc1, hf, hH⟩), fun h => absurd h (by omega)⟩
      refine s_Form_readList_16 ⟨fun h => absurd h (by omega), fun _ => ⟨fun h => absurd h (by omega), fun _ => ⟨(am_kk hB rfl), x_ale hB hT1 hi1 hj (fun hle => ⟨_, rfl, s_Form_readList_33 ⟨fun _ => out hle, fun h => absurd h (by decide)⟩⟩) (fun hle => ⟨_, rfl, s_Form_readList_33 ⟨fun h => absurd rfl h, fun _ => ⟨(am_kk hB rfl), ?_⟩⟩⟩)⟩⟩⟩
      refine hX n0 K I1 J1 R _ kd pl nu nm c j b (m + ls_sz (tm_sz n) (ts ++ [u])) v (d + 1) hB hb hT1 hi1 hj hc1 h60 (by omega) (fun I2 J2 t j2 ht => ⟨_, rfl, ?_⟩) (fun I2 J2 k hk => ⟨_, rfl, ?_⟩)
      · obtain ⟨t1, t2, t3, t4, t5, t6, t7, t8⟩ := ht
        have pt := tm_sz_pos n t
        refine s_Form_readList_43 ⟨k0, _, am_rb hB hb rfl rfl, _, by unfold am_nc; omega, am_kb hB hb (by decide) rfl, ⟨by omega, by omega⟩, am_ar_i (by omega) (by omega) ?_⟩
        have e1 : ls_sz (tm_sz n) (ts ++ [u] ++ [t]) = ls_sz (tm_sz n) (ts ++ [u]) + tm_sz n t := by rw [ls_sz_app]; simp [ls_sz]
        have f2 : ft_fr b m I2 (am_u I2 (b + 9) (m + ls_sz (tm_sz n) ts) ((m + ls_sz (tm_sz n) (ts ++ [u]) : Nat) : Int)) J2 J2 := ft_fr_up (by omega) (by omega) (by omega)
        have g := ih (ts ++ [u]) t j2 (am_u I2 (b + 9) (m + ls_sz (tm_sz n) ts) ((m + ls_sz (tm_sz n) (ts ++ [u]) : Nat) : Int)) J2 (by omega) (ls_sp_app _ t i j j2 hs t1) (by omega) t3 ((am_u_ne (by omega)).trans t4) ?_ (ft_fr_trans (ft_fr_trans hf t6 (by omega)) f2 (Nat.le_refl _)) ?_
        · have el : ((ts ++ [u]).length : Int) = (ts.length : Int) + 1 := by simp
          rw [el] at g
          exact am_WP.forget g _ (am_le_eq (am_le_eq (am_le_eq (am_le_eq (am_le_eq (am_le_eq (am_le_eq (am_le_o am_le_nil))))))))
        · rw [am_u_ne (by omega), t5, e1, Nat.add_assoc]
        · refine ft_HL_app (I := I2) (e := m + ls_sz (tm_sz n) (ts ++ [u])) ts m (ft_HL_frame hH (fun x y a1 a2 a3 a4 => t6.2.1 x y a1 a2 a4) (fun y a3 a4 => t6.2.2.2 (b + 5) y (by omega))) rfl t7 t8 (fun x y q => ?_) am_u_kk
          by_cases ex : x = b + 9
          · subst ex; exact am_u_kn (fun e => q ⟨rfl, e⟩)
          · exact am_u_ne ex
      · refine s_Form_readList_43 ⟨k0, _, am_rb hB hb rfl rfl, _, by unfold am_nc; omega, am_kb hB hb (by decide) rfl, ⟨by omega, by omega⟩, am_ar_i (by omega) (by omega) (am_WP.forget (ls := [.inr (.inl 12), .inr (.inl b), .inl (xt_v v), .inl (7 - (n : Int)), .inl (m : Int), .inl (-1), .inl ((ts.length : Int) + 1), am_o]) ?_ _ (am_le_eq (am_le_eq (am_le_eq (am_le_eq (am_le_eq (am_le_eq (am_le_eq (am_le_o am_le_nil)))))))))⟩
        have fin : ∀ y : Int, am_WP (d + 2) (94, 76, [.inr (.inl 12), .inr (.inl b), .inl (xt_v v), .inl (7 - (n : Int)), .inl (m : Int), .inl (-1), .inl y, am_o], [.inl (-1)], (0, 0), n0, K, am_u I2 (b + 9) (m + ls_sz (tm_sz n) ts) (-1), J2, R) Q := fun y => s_Form_readList_76 (bad _ J2 k ⟨⟨ts ++ [u], j, hs, h60, fun _ => hle, hk.1⟩, hk.2.1, (am_u_ne (by omega)).trans hk.2.2.1, ft_fr_trans (ft_fr_trans hf hk.2.2.2 (by omega)) (ft_fr_up (by omega) (by omega) (by omega)) (Nat.le_refl _)⟩)
        exact s_Form_readList_16 ⟨fun _ => ⟨fun h => absurd rfl h, fun _ => fin _⟩, fun _ => ⟨fun _ => ⟨fun h => absurd rfl h, fun _ => fin _⟩, fun h => absurd rfl h⟩⟩
  refine e_Form_readList ⟨(am_kk hB rfl), hX n0 K I J R _ kd pl nu nm c i b m v (d + 1) hB hb hT hi hc hm hm2 (by omega) (fun I1 J1 t j ht => ⟨_, rfl, s_Form_readList_7 ?_⟩) (fun I1 J1 k hk => ⟨_, rfl, s_Form_readList_7 ?_⟩)⟩
  · obtain ⟨t1, t2, t3, t4, t5, t6, t7, t8⟩ := ht
    have e1 : ls_sz (tm_sz n) ([] ++ [t]) = tm_sz n t := by simp [ls_sz]
    refine loop 60 [] t j I1 J1 (by omega) ⟨j, t1, rfl⟩ (by rw [e1]; exact t2) t3 t4 (by rw [e1]; exact t5) t6 ⟨t7, by rw [t8]; rfl, trivial⟩
  · have fin : am_WP (d + 2) (94, 76, [.inr (.inl 12), .inr (.inl b), .inl (xt_v v), .inl (7 - (n : Int)), .inl (-1), .inl (-1), .inl 0, am_o], [.inl (-1)], (0, 0), n0, K, I1, J1, R) Q := s_Form_readList_76 (bad I1 J1 k ⟨⟨[], i, rfl, by simpa [ls_sz] using hm2, fun h => absurd rfl h, hk.1⟩, hk.2.1, hk.2.2.1, hk.2.2.2⟩)
    exact s_Form_readList_16 ⟨fun h => absurd h (by decide), fun _ => ⟨fun _ => ⟨fun h => absurd rfl h, fun _ => fin⟩, fun h => absurd rfl h⟩⟩
