/-! THE EXAMPLE: column by column -/
def ext (f : Nat → Int → List Int) (W : Nat → Int) : Nat → Nat → List Int
  | 0, _ => []
  | k + 1, z => (if z = 0 then [] else [32]) ++ (f (z + 1) (W z) ++ ext f W k (z + 1))
section COL
variable {d n0 : Nat} {C : Nat → am_K} {G I0 J F : Nat → Nat → Int} {R : Nat → Nat → Option Nat} {K : Nat → Int} {aT W : Nat → Int} {nmL : Nat → List Int} {r s N m ns wd : Nat} {Q : am_Q}
theorem x_writeExample (hB : am_B C R) (hW : xW G J K aT nmL r N m ns) (hwd : G r 2 = (wd : Int)) (wd4 : wd ≤ 4) (hc : ∀ z : Nat, z < wd → G (r + 26) z = W z ∧ (W z = 6 ∨ ∃ T : Nat, T < N ∧ W z = (T : Int))) (hL : xl [] G) (hl : (ext (wtx K G aT r nmL 6) W wd 0).length ≤ 1200) (post : ∀ I' : Nat → Nat → Int, xl_fr G I' → xl (ext (wtx K G aT r nmL 6) W wd 0) I' → Q none (n0, C, I', J, R)) : am_WP (d + 17) (am_entry 131 [.inr (.inl 31), .inr (.inl r)] (n0, C, G, J, R)) Q := by
  have hr := hW.1
  have k0 : C r = .inl 5 := am_kq (i := 0) hB hr (by decide) rfl
  have loop : ∀ (k z : Nat) (L : List Int) (I : Nat → Nat → Int), k + z = wd → xl_fr G I → xl L I → L.length + (ext (wtx K G aT r nmL 6) W k z).length ≤ 1200 → L ++ ext (wtx K G aT r nmL 6) W k z = ext (wtx K G aT r nmL 6) W wd 0 → am_WP (d + 17) (131, 2, [.inr (.inl 31), .inr (.inl r), .inl (z : Int)], [], (0, 0), n0, C, I, J, R) Q := by
    intro k
    induction k with
    | zero =>
      intro z L I hk hI hL hl he
      refine s_Search_writeExample_2 ⟨k0, am_nm_k ((congrFun (hI r (by omega) (by omega)) 2).trans hwd) ?_⟩
      rintro _ rfl _ _
      refine ⟨fun _ => post I hI ?_, fun h => absurd h (by omega)⟩
      rw [← he]
      show xl (L ++ []) I
      rw [List.append_nil]; exact hL
    | succ k ih =>
      intro z L I hk hI hL hl he
      have e1 : ext (wtx K G aT r nmL 6) W (k + 1) z = (if z = 0 then [] else [32]) ++ (wtx K G aT r nmL 6 (z + 1) (W z) ++ ext (wtx K G aT r nmL 6) W k (z + 1)) := rfl
      rw [e1] at hl he
      rw [List.length_append, List.length_append] at hl
      obtain ⟨c1, c2⟩ := hc z (by omega)
      have at23 : ∀ (L1 : List Int) (I1 : Nat → Nat → Int), xl_fr G I1 → xl L1 I1 → L1 = L ++ (if z = 0 then [] else [32]) → am_WP (d + 17) (131, 23, [.inr (.inl 31), .inr (.inl r), .inl (z : Int)], [], (0, 0), n0, C, I1, J, R) Q := by
        intro L1 I1 f1 h1 eL
        refine s_Search_writeExample_23 ⟨k0, r + 1, am_rq (i := 0) hB hr rfl rfl, k0, r + 26, am_rq (i := 0) hB hr rfl rfl, _, am_kq (i := 26) hB hr (by decide) rfl, ⟨by omega, by omega⟩, am_nm_k ((congrFun (f1 (r + 26) (by omega) (by omega)) z).trans c1) (fun y hy _ _ => am_ar_i (by omega) (by omega) ⟨(am_kk hB rfl), ?_⟩)⟩
        rw [hy]
        have pz : (z + 1 + 2) * 4 ^ 6 ≤ 1000000 := Nat.le_trans (Nat.mul_le_mul_right _ (show z + 1 + 2 ≤ 7 by omega)) (by decide)
        refine xv_all hB hW 6 (z + 1) (d + 16) (W z) L1 I1 _ (by omega) (by omega) f1 h1 ?_ c2 pz (fun I2 f2 h2 => ⟨rfl, s_Search_writeExample_41 (am_ar_i (by omega) (by omega) ?_)⟩)
        · rw [eL, List.length_append]; omega
        · refine ih (z + 1) _ I2 (by omega) f2 h2 ?_ ?_
          · rw [eL, List.length_append, List.length_append]; omega
          · rw [← he, eL]; simp [List.append_assoc]
      refine s_Search_writeExample_2 ⟨k0, am_nm_k ((congrFun (hI r (by omega) (by omega)) 2).trans hwd) ?_⟩
      rintro _ rfl _ _
      refine ⟨fun h => absurd h (by omega), fun _ => ⟨fun h0 => at23 L I hI hL ?_, fun h0 => ⟨(am_kk hB rfl), 32, (am_rf hB rfl), (am_kk hB rfl), x_put hB hL ?_ (fun I1 f1 h1 => ⟨rfl, at23 _ I1 (xl_trans hI f1) h1 ?_⟩)⟩⟩⟩
      · rw [if_pos (by omega), List.append_nil]
      · rw [if_neg (by omega)] at hl
        have : ([32] : List Int).length = 1 := rfl
        omega
      · rw [if_neg (by omega)]
  exact e_Search_writeExample (loop wd 0 [] G (by omega) xl_refl hL (by rw [List.length_nil]; omega) rfl)
theorem m_sayValue {p : Nat} {l w : Int} {L : List Int} {I : Nat → Nat → Int} (hB : am_B C R) (hM : mW I0 J F K aT W nmL r s N m wd) (hf : ms_fr I0 I) (hw : wt F r N l w) (hA : AA K F aT r m 6 p w) (hp : p ≤ 4) (hL : ml L I) (hl : L.length + (wtx K F aT r nmL 6 p w).length ≤ 3000) (post : ∀ I' : Nat → Nat → Int, ms_fr I0 I' → ml (L ++ wtx K F aT r nmL 6 p w) I' → Q none (n0, C, I', J, R)) : am_WP (d + 3) (am_entry 73 [.inr (.inl 101), .inl (p : Int), .inl l] (n0, C, I, J, R)) Q := by
  refine e_M_sayValue ⟨⟨by decide, (am_kk hB rfl)⟩, (am_kk hB rfl), m_later (k := 0) hB am_u_kk (by decide) (fun I1 f1 h1 h2 h3 => ⟨rfl, ?_⟩)⟩
  have hp6 : (p + 2) * 4 ^ 6 ≤ 65536 := Nat.le_trans (Nat.mul_le_mul_right _ (show p + 2 ≤ 6 by omega)) (by decide)
  have e1 : itX K F aT r nmL [(0, some (6, p, w))] = wtx K F aT r nmL 6 p w := by
    show wtx K F aT r nmL 6 p w ++ [] = _
    rw [List.append_nil]
  refine m_items hB hM _ [(0, some (6, p, w))] L I1 (Nat.le_refl _) (fun a j g1 g2 g3 g4 => ?_) ⟨by decide, ⟨h2, ⟨l, h3, hw⟩, by decide, hA, hp6⟩, trivial⟩ h1 ⟨?_, ?_⟩ (by rw [e1]; exact hl) (fun I2 f2 h4 => post I2 f2 (by rw [e1] at h4; exact h4))
  · rw [f1 a j (by omega) (by omega), am_u_off (by omega)]; exact hf a j g1 g2 g3 g4
  · rw [f1 101 54 (by omega) (by omega), am_u_kn (by decide)]; exact hL.1
  · refine lkI_fr _ _ hL.2 (fun j _ _ => ?_)
    rw [f1 135 j (by omega) (by omega), am_u_ne (by decide)]
theorem m_columns (hB : am_B C R) (hM : mW I0 J F K aT W nmL r s N m wd) (hwd : I0 114 s = (wd : Int)) (hfd : I0 101 43 = 1) (hc : ∀ z : Nat, z < wd → ∃ l : Int, I0 115 (4 * s + z) = l ∧ wt F r N l (W z)) (hA : ∀ z : Nat, z < wd → AA K F aT r m 6 (z + 1) (W z)) (hL : ml [] I0) (hl : (ext (wtx K F aT r nmL 6) W wd 0).length ≤ 3000) (post : ∀ I' : Nat → Nat → Int, ms_fr I0 I' → ml (ext (wtx K F aT r nmL 6) W wd 0) I' → Q none (n0, C, I', J, R)) : am_WP (d + 4) (69, 32, [.inr (.inl 101), .inl 0], [], (0, 0), n0, C, I0, J, R) Q := by
  have g14 := hM.1
  have s2 := hM.2.1.1
  have wd4 := hM.2.1.2.2.2.1
  have loop : ∀ (k z : Nat) (L : List Int) (I : Nat → Nat → Int), k + z = wd → ms_fr I0 I → ml L I → L.length + (ext (wtx K F aT r nmL 6) W k z).length ≤ 3000 → L ++ ext (wtx K F aT r nmL 6) W k z = ext (wtx K F aT r nmL 6) W wd 0 → am_WP (d + 4) (69, 32, [.inr (.inl 101), .inl (z : Int)], [], (0, 0), n0, C, I, J, R) Q := by
    intro k
    induction k with
    | zero =>
      intro z L I hk hI hL hl he
      refine s_M_findExample_32 ⟨(am_kk hB rfl), 114, (am_rf hB rfl), (am_kk hB rfl), am_nm_k ((hI _ _ (by omega) (by omega) (by omega) (by omega)).trans g14) ?_⟩
      rintro _ rfl _ _
      refine ⟨_, (am_kk hB rfl), ⟨by omega, by omega⟩, am_nm_k ((hI _ _ (by omega) (by omega) (by omega) (by omega)).trans hwd) ?_⟩
      rintro _ rfl _ _
      refine ⟨fun _ => post I hI ?_, fun h => absurd h (by omega)⟩
      rw [← he]
      show ml (L ++ []) I
      rw [List.append_nil]; exact hL
    | succ k ih =>
      intro z L I hk hI hL hl he
      have e1 : ext (wtx K F aT r nmL 6) W (k + 1) z = (if z = 0 then [] else [32]) ++ (wtx K F aT r nmL 6 (z + 1) (W z) ++ ext (wtx K F aT r nmL 6) W k (z + 1)) := rfl
      rw [e1] at hl he
      rw [List.length_append, List.length_append] at hl
      obtain ⟨l, c1, c2⟩ := hc z (by omega)
      have at62 : ∀ (L1 : List Int) (I1 : Nat → Nat → Int), ms_fr I0 I1 → ml L1 I1 → L1 = L ++ (if z = 0 then [] else [32]) → am_WP (d + 4) (69, 62, [.inr (.inl 101), .inl (z : Int)], [], (0, 0), n0, C, I1, J, R) Q := by
        intro L1 I1 f1 h1 eL
        refine s_M_findExample_62 (am_ar_i (by omega) (by omega) ⟨(am_kk hB rfl), 115, (am_rf hB rfl), (am_kk hB rfl), am_nm_k ((f1 _ _ (by omega) (by omega) (by omega) (by omega)).trans g14) ?_⟩)
        rintro _ rfl _ _
        refine am_ar_i (by omega) (by omega) (am_ar_i (by omega) (by omega) ?_)
        rw [show (4 : Int) * (s : Int) + (z : Int) = ((4 * s + z : Nat) : Int) by omega]
        refine ⟨_, (am_kk hB rfl), ⟨by omega, by omega⟩, am_nm_k ((f1 _ _ (by omega) (by omega) (by omega) (by omega)).trans c1) (fun y hy _ _ => ⟨(am_kk hB rfl), ?_⟩)⟩
        rw [hy]
        refine m_sayValue (p := z + 1) hB hM f1 c2 (hA z (by omega)) (by omega) h1 ?_ (fun I2 f2 h2 => ⟨rfl, s_M_findExample_82 (am_ar_i (by omega) (by omega) ?_)⟩)
        · rw [eL, List.length_append]; omega
        · refine ih (z + 1) _ I2 (by omega) f2 h2 ?_ ?_
          · rw [eL, List.length_append, List.length_append]; omega
          · rw [← he, eL]; simp [List.append_assoc]
      refine s_M_findExample_32 ⟨(am_kk hB rfl), 114, (am_rf hB rfl), (am_kk hB rfl), am_nm_k ((hI _ _ (by omega) (by omega) (by omega) (by omega)).trans g14) ?_⟩
      rintro _ rfl _ _
      refine ⟨_, (am_kk hB rfl), ⟨by omega, by omega⟩, am_nm_k ((hI _ _ (by omega) (by omega) (by omega) (by omega)).trans hwd) ?_⟩
      rintro _ rfl _ _
      refine ⟨fun h => absurd h (by omega), fun _ => ⟨(am_kk hB rfl), am_nm_k ((hI _ _ (by omega) (by omega) (by omega) (by omega)).trans hfd) ?_⟩⟩
      rintro _ rfl _ _
      refine ⟨fun h => absurd h (by decide), fun _ => ⟨fun h0 => at62 L I hI hL ?_, fun h0 => ⟨(am_kk hB rfl), m_say hB hL ?_ (by decide) (by decide) (fun I1 f1 h1 => ⟨rfl, at62 _ I1 (ms_trans hI (ms_ml f1)) h1 ?_⟩)⟩⟩⟩
      · rw [if_pos (by omega), List.append_nil]
      · rw [if_neg (by omega)] at hl
        have : ([32] : List Int).length = 1 := rfl
        omega
      · rw [if_neg (by omega)]
  exact loop wd 0 [] I0 (by omega) ms_refl hL (by rw [List.length_nil]; omega) rfl
end COL
