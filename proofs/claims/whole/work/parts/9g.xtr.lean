/-! TRIAL: the class tries pats -/
def prl {n nu : Nat} (f : Int → tm n → Option Int) (g : Int → tm nu → Option Int) : List (tm n) → List (tm nu) → (Nat → Int) → Prop
  | [], [], _ => True
  | t :: ts, u :: us, W => f (W 0) t = none ∧ g (W 0) u = none ∧ prl f g ts us (fun i => W (i + 1))
  | _, _, _ => False
theorem prl_of {n nu : Nat} {f : Int → tm n → Option Int} {g : Int → tm nu → Option Int} {a1 : tm n → Int} {a2 : tm nu → Int} {e1 e2 : Int} : ∀ (ts : List (tm n)) (us : List (tm nu)) (m : Nat) (W : Nat → Int), ls_f f a1 e1 W m ts = none → ls_f g a2 e2 W m us = none → prl f g ts us W ∧ ts.length = m ∧ us.length = m := by
  intro ts
  induction ts with
  | nil =>
    intro us m W h1 h2
    cases m with
    | zero =>
      cases us with
      | nil => exact ⟨trivial, rfl, rfl⟩
      | cons u us => exact absurd h2 (by simp [ls_f])
    | succ m => exact absurd h1 (by simp [ls_f])
  | cons t ts ih =>
    intro us m W h1 h2
    cases m with
    | zero => exact absurd h1 (by simp [ls_f])
    | succ m =>
      cases us with
      | nil => exact absurd h2 (by simp [ls_f])
      | cons u us =>
        have h1' : oe (f (W 0) t) (ls_f f a1 e1 (fun i => W (i + 1)) m ts) = none := h1
        have h2' : oe (g (W 0) u) (ls_f g a2 e2 (fun i => W (i + 1)) m us) = none := h2
        obtain ⟨a, b⟩ := oe_none h1'
        obtain ⟨c, e⟩ := oe_none h2'
        obtain ⟨p1, p2, p3⟩ := ih us m _ b e
        exact ⟨⟨a, c, p1⟩, by show ts.length + 1 = m + 1; omega, by show us.length + 1 = m + 1; omega⟩
def pkd : (n : Nat) → tm n → Prop
  | 0, _ => False
  | n + 1, t => (tm_l t).1 ≠ 7 ∧ ∀ k ∈ tm_k t, pkd n k
section XP
variable (d0 n0 : Nat) (K : Nat → am_K) (F J : Nat → Nat → Int) (R : Nat → Nat → Option Nat) (aT W : Nat → Int) (r m : Nat)
/-- a trial's answer: what it is, and what has been looked at -/
def xp_A (I I' : Nat → Nat → Int) (A : List (Nat × Int)) (L : List Nat) (S : (Nat → Int) → Prop) (res : Int) (L' : List Nat) : Prop := tr_fr I I' ∧ lkS I' L' ∧ L'.length ≤ L.length + A.length ∧ (res = 1 ∨ res = 0 ∨ res = -2) ∧ ∀ V : Nat → Int, S V → tra V A L = (res, L')
def xp_P (n : Nat) : Prop := ∀ (nu i k p D : Nat) (t : tm n) (u : tm nu) (w : Int) (L : List Nat) (I : Nat → Nat → Int) (Q : am_Q), nu ≤ 6 → 2 * n + 5 ≤ D → tr_fr F I → vl F J aT r m (r + 15) n i t w → pkd n t → vl F J aT r m 19 nu k u w → vk nu u → lkS I L → L.length + (al (fx (J (r + 7)) m) (nwc F r) n p t).length ≤ 60 → (p + 2) * 4 ^ n ≤ 1000000 → (∀ (I' : Nat → Nat → Int) (res : Int) (L' : List Nat), xp_A I I' (al (fx (J (r + 7)) m) (nwc F r) n p t) L (fun V => vS (fx (J (r + 7)) m) (nwc F r) V nu p u) res L' → Q (some (.inl (cdr res))) (n0, K, I', J, R)) → am_WP D (am_entry 159 [.inr (.inl 29), .inr (.inl r), .inr (.inl 19), .inl (i : Int), .inl (k : Int), .inl (p : Int)] (n0, K, I, J, R)) Q
def xp_L (n : Nat) : Prop := ∀ (ts : List (tm n)) (nu i k p z D : Nat) (us : List (tm nu)) (Wt : Nat → Int) (L : List Nat) (I : Nat → Nat → Int) (Q : am_Q) (x3 x4 : Int), nu ≤ 6 → 2 * n + 6 ≤ D → tr_fr F I → ls_H (ft_H F J (r + 15) n) (tm_sz n) (F (r + 24)) i ts → ls_A (ft_G F (r + 15) (fx (J (r + 7)) m) n) (tm_sz n) i ts → (∀ t ∈ ts, tm_ok n t) → (∀ t ∈ ts, pkd n t) → i + ls_sz (tm_sz n) ts ≤ 60 → ls_H (ft_H F J 19 nu) (tm_sz nu) (F 28) k us → ls_A (ft_G F 19 (fx (J (r + 7)) m) nu) (tm_sz nu) k us → (∀ t ∈ us, tm_ok nu t) → (∀ t ∈ us, vk nu t) → k + ls_sz (tm_sz nu) us ≤ 60 → prl (tf (fx (J (r + 7)) m) (F (r + 5)) (F (r + 6)) aT n) (tf (fx (J (r + 7)) m) (F (r + 5)) (F (r + 6)) aT nu) ts us Wt → z + ts.length ≤ 4 → lkS I L → L.length + (ls_al (al (fx (J (r + 7)) m) (nwc F r) n) (p + z) ts).length ≤ 60 → (p + 5) * 4 ^ n ≤ 1000000 → (∀ (I' : Nat → Nat → Int) (res : Int) (L' : List Nat), xp_A I I' (ls_al (al (fx (J (r + 7)) m) (nwc F r) n) (p + z) ts) L (fun V => ls_v (vS (fx (J (r + 7)) m) (nwc F r) V nu) (p + z) us) res L' → Q (some (.inl (cdr res))) (n0, K, I', J, R)) → am_WP D (158, 13, [.inr (.inl 29), .inr (.inl r), .inr (.inl 19), .inl x3, .inl x4, .inl (p : Int), .inl (bif ts.isEmpty then -1 else (i : Int)), .inl (bif us.isEmpty then -1 else (k : Int)), .inl 0, .inl (z : Int)], [], (0, 0), n0, K, I, J, R) Q
end XP
section XPP
variable {n0 : Nat} {K : Nat → am_K} {F J : Nat → Nat → Int} {R : Nat → Nat → Option Nat} {aT W : Nat → Int} {r s N m wd : Nat}
theorem xp_list (n : Nat) (hB : am_B K R) (hr : r = 41 ∨ r = 71) (hX : xp_P n0 K F J R aT r m n) : xp_L n0 K F J R aT r m n := by
  intro ts
  induction ts with
  | nil =>
    intro nu i k p z D us Wt L I Q x3 x4 hnu hD hF h1 h2 h3 h3' h4 h5 h6 h7 h7' h8 hp hz hL hl hb post
    have hus : us = [] := by
      cases us with
      | nil => rfl
      | cons u us => exact hp.elim
    subst hus
    obtain ⟨d, rfl⟩ : ∃ d, D = d + 1 := ⟨D - 1, by omega⟩
    have fin := post I 1 L ⟨tr_refl, hL, Nat.le_refl _, Or.inl rfl, fun V _ => rfl⟩
    exact s_Trial_tryList_13 ⟨fun _ => fin, fun _ => ⟨fun _ => fin, fun h => absurd rfl h⟩⟩
  | cons t ts ih =>
    intro nu i k p z D us Wt L I Q x3 x4 hnu hD hF h1 h2 h3 h3' h4 h5 h6 h7 h7' h8 hp hz hL hl hb post
    cases us with
    | nil => exact hp.elim
    | cons u us =>
      obtain ⟨d, rfl⟩ : ∃ d, D = d + 1 := ⟨D - 1, by omega⟩
      obtain ⟨p1, p2, p3⟩ := hp
      have hz' : z + (ts.length + 1) ≤ 4 := hz
      have ez1 : ls_sz (tm_sz n) (t :: ts) = tm_sz n t + ls_sz (tm_sz n) ts := rfl
      have ez2 : ls_sz (tm_sz nu) (u :: us) = tm_sz nu u + ls_sz (tm_sz nu) us := rfl
      have eal : ls_al (al (fx (J (r + 7)) m) (nwc F r) n) (p + z) (t :: ts) = al (fx (J (r + 7)) m) (nwc F r) n (p + z) t ++ ls_al (al (fx (J (r + 7)) m) (nwc F r) n) (p + z + 1) ts := rfl
      rw [eal, List.length_append] at hl
      have pt := tm_sz_pos n t
      have pu := tm_sz_pos nu u
      have k0 : K r = .inl 5 := am_kq (i := 0) hB hr (by decide) rfl
      have k15 : K (r + 15) = .inl 7 := am_kq (i := 15) hB hr (by decide) rfl
      have hb15 : ft_b (r + 15) := by unfold ft_b; omega
      have ixi : (0 : Int) ≤ (i : Int) ∧ (i : Int) < ((60 : Nat) : Int) := ⟨by omega, by omega⟩
      have ixk : (0 : Int) ≤ (k : Int) ∧ (k : Int) < ((60 : Nat) : Int) := ⟨by omega, by omega⟩
      have hp4 : p + 5 ≤ 1000000 := by
        have : 1 ≤ 4 ^ n := Nat.one_le_pow _ _ (by decide)
        have := Nat.mul_le_mul_left (p + 5) this
        omega
      refine s_Trial_tryList_13 ⟨fun h => absurd h (by omega), fun _ => ⟨fun h => absurd (show (i : Int) = -1 from h) (by omega), fun _ => ⟨fun h => absurd (show (k : Int) = -1 from h) (by omega), fun _ => ⟨fun h => absurd rfl h, fun _ => am_ar_i (by omega) (by omega) ?_⟩⟩⟩⟩
      rw [show (p : Int) + (z : Int) = ((p + z : Nat) : Int) by omega]
      refine ⟨(am_kk hB rfl), ?_⟩
      show am_WP d (am_entry 159 [.inr (.inl 29), .inr (.inl r), .inr (.inl 19), .inl (i : Int), .inl (k : Int), .inl ((p + z : Nat) : Int)] (n0, K, I, J, R)) _
      refine hX nu i k (p + z) d t u (Wt 0) L I _ hnu (by omega) hF ⟨h1.1, h2.1, h3 t List.mem_cons_self, p1, by omega⟩ (h3' t List.mem_cons_self) ⟨h5.1, h6.1, h7 u List.mem_cons_self, p2, by omega⟩ (h7' u List.mem_cons_self) hL (by omega) (Nat.le_trans (Nat.mul_le_mul_right _ (by omega)) hb) (fun I1 res L1 hA => ⟨_, rfl, ?_⟩)
      obtain ⟨a1, a2, a3, a4, a5⟩ := hA
      have n1 : I1 (r + 24) i = (bif ts.isEmpty then -1 else ((i + tm_sz n t : Nat) : Int)) := (a1 _ _ (by omega) (by omega)).trans ((hF _ _ (by omega) (by omega)).trans h1.2.1)
      have n2 : I1 28 k = (bif us.isEmpty then -1 else ((k + tm_sz nu u : Nat) : Int)) := (a1 _ _ (by omega) (by omega)).trans ((hF _ _ (by omega) (by omega)).trans h5.2.1)
      refine s_Trial_tryList_51 ⟨k0, r + 15, am_rq (i := 0) hB hr rfl rfl, k15, r + 24, am_rq (i := 15) hB hr rfl rfl, _, am_kq (i := 24) hB hr (by decide) rfl, ixi, am_nm_k n1 ?_⟩
      rintro _ rfl _ _
      refine ⟨(am_kk hB rfl), 28, (am_rf hB rfl), _, (am_kk hB rfl), ixk, am_nm_k n2 ?_⟩
      rintro _ rfl _ _
      refine am_ar_i (by omega) (by omega) ?_
      have happ : ∀ V : Nat → Int, ls_v (vS (fx (J (r + 7)) m) (nwc F r) V nu) (p + z) (u :: us) → tra V (ls_al (al (fx (J (r + 7)) m) (nwc F r) n) (p + z) (t :: ts)) L = (if res = 1 then tra V (ls_al (al (fx (J (r + 7)) m) (nwc F r) n) (p + z + 1) ts) L1 else (res, L1)) := by
        intro V hV
        rw [eal, tra_app, a5 V hV.1]
      rcases a4 with e | e
      · subst e
        refine ih nu (i + tm_sz n t) (k + tm_sz nu u) p (z + 1) (d + 1) us (fun i => Wt (i + 1)) L1 I1 Q x3 x4 hnu (by omega) (tr_trans hF a1) h1.2.2 h2.2 (fun y hy => h3 y (List.mem_cons_of_mem _ hy)) (fun y hy => h3' y (List.mem_cons_of_mem _ hy)) (by omega) h5.2.2 h6.2 (fun y hy => h7 y (List.mem_cons_of_mem _ hy)) (fun y hy => h7' y (List.mem_cons_of_mem _ hy)) (by omega) p3 (by omega) a2 (by rw [show p + (z + 1) = p + z + 1 by omega]; omega) hb (fun I2 res2 L2 hA2 => post I2 res2 L2 ?_)
        obtain ⟨b1, b2, b3, b4, b5⟩ := hA2
        rw [show p + (z + 1) = p + z + 1 by omega] at b3 b5
        refine ⟨tr_trans a1 b1, b2, ?_, b4, fun V hV => ?_⟩
        · rw [eal, List.length_append]; omega
        · rw [happ V hV, if_pos rfl]; exact b5 V hV.2
      · have hne : cdr res ≠ 0 := by
          unfold cdr
          rcases e with e | e <;> rw [e] <;> decide
        have rne : res ≠ 1 := by
          rcases e with e | e <;> rw [e] <;> decide
        have fin := post I1 res L1 ⟨a1, a2, by rw [eal, List.length_append]; omega, Or.inr e, fun V hV => by rw [happ V hV, if_neg rne]⟩
        refine s_Trial_tryList_13 ⟨fun _ => fin, fun _ => ⟨fun _ => fin, fun _ => ⟨fun _ => fin, fun _ => ⟨fun _ => fin, fun h => absurd h hne⟩⟩⟩⟩
end XPP
