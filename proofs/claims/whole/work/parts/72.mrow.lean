section MS
variable {d n0 : Nat} {K : Nat → am_K} {J : Nat → Nat → Int} {R : Nat → Nat → Option Nat} {Q : am_Q} {kd pl nu nm : Nat → Int} {c : Nat} {v : Bool}
theorem md_zero (hB : am_B K R) : mr_D d n0 K J R Q kd pl nu nm c v 0 := by
  intro I i m o k x3 hM hS hc hm ho hbd post
  have e : k = i := hbd
  subst e
  refine m_pat hB hM hS hc hm (by omega) (fun _ I' hb => ⟨rfl, s_M_formOfRow_96 (mr_bad hB hb.2.2.1 (post I' hb))⟩) (fun _ _ h => absurd h (by omega)) (fun _ h => absurd h (by omega)) (fun _ h => absurd h (by omega)) (fun _ h => absurd h (by omega))
theorem md_succ (hB : am_B K R) (n : Nat) (hD : mr_D d n0 K J R Q kd pl nu nm c v n) (hL : mr_Ls d n0 K J R Q kd pl nu nm c v n) : mr_D d n0 K J R Q kd pl nu nm c v (n + 1) := by
  intro I i m o k x3 hM hS hc hm ho hbd post
  have out : ∀ I' : Nat → Nat → Int, fm_bad pl I I' k → (none : Option am_V) = none ∧ am_WP (d + 5) (34, 96, [.inr (.inl 101), .inl (xt_v v), .inl 1, .inl x3], [], (0, 0), n0, K, I', J, R) Q := fun I' hb => ⟨rfl, s_M_formOfRow_96 (mr_bad hB hb.2.2.1 (post I' hb))⟩
  -- a term that cannot be read, at the loop's head
  have again : ∀ (I' : Nat → Nat → Int) (i' m' o' : Nat), fm_fr I I' → fm_S I' i' m' o' → i' ≤ c → m' ≤ 60 → o' + n = 6 → 0 < o' → kd i' ≠ 41 → ft_bd kd pl nu nm v n i' m' k → fm_L d n0 v K J R Q 0 I' := by
    intro I' i' m' o' f1 s1 hc1 hm1 ho1 hp h41 hb1
    exact mr_go hB (mt_fr hM f1) s1 hc1 (by omega) (Or.inr (Or.inr ⟨hp, h41⟩)) (hD I' i' m' o' k 0 (mt_fr hM f1) s1 hc1 hm1 ho1 hb1 (fun I2 hb2 => post I2 (fm_bad_tr f1 hb2)))
  have hbgc : ∀ x : Nat, x ≤ c → ft_bg v (kd x) → x < c := by
    intro x hx hb
    refine mt_lt hM hx ?_ ?_
    · intro e; unfold ft_bg at hb; omega
    · intro e; unfold ft_bg at hb; omega
  refine m_pat hB hM hS hc hm (by omega) ?_ ?_ ?_ ?_ ?_
  · intro hq I' hb
    have e : k = i := by
      rcases hq with q | q | q
      · exact ft_bd_nb hbd q
      · rcases hbd with h | h
        · exact h.2
        · omega
      · omega
    rw [← e] at hb
    exact out I' hb
  · intro hv hm60 ho6 e he
    have hbe : ft_bd kd pl nu nm v n (i + e) (m + 1) k := by
      rcases hbd with h | ⟨-, h | h | h | h⟩
      · rcases h.1 with q | q
        · omega
        · refine absurd ?_ q
          unfold ft_bg
          exact Or.inr (Or.inr (Or.inr (Or.inr ⟨hv, by omega⟩)))
      · have : e = 1 := by omega
        rw [this]; exact h.2.2
      · have : e = 2 := by omega
        rw [this]; exact h.2.2.2
      · omega
      · omega
    have hbi : ft_bg v (kd i) := by
      unfold ft_bg
      exact Or.inr (Or.inr (Or.inr (Or.inr ⟨hv, by omega⟩)))
    have hic := hbgc i hc hbi
    refine ⟨fun hbg2 I' f1 s1 o1 q1 => ⟨rfl, s_M_formOfRow_96 ?_⟩, fun hnb I' hb => ?_⟩
    · have hec : i + e ≤ c := by
        rcases he with he | he
        · omega
        · have := mt_lt (i := i + 1) hM (by omega) (by rw [he.2.2]; decide) (by rw [he.2.2]; decide)
          omega
      exact again I' (i + e) (m + 1) (o + 1) f1 s1 hec (by omega) (by omega) (by omega) (fun q => ft_le_nb (Or.inl q) hbg2) hbe
    · rw [← ft_bd_nb hbe hnb] at hb
      exact out I' hb
  · intro hm60 ho6 h40 h3 I' hb
    have e : k = i + 1 := by
      rcases hbd with h | ⟨-, h | h | h | h⟩
      · rcases h.1 with q | q
        · omega
        · refine absurd ?_ q
          unfold ft_bg
          exact Or.inr (Or.inr (Or.inl h40))
      · omega
      · omega
      · exact h.2.2
      · exact absurd h.2.1 h3
    rw [← e] at hb
    exact out I' hb
  · intro hm60 ho6 h40 h3
    have hic := hbgc i hc (Or.inr (Or.inr (Or.inl h40)))
    have hc1 := mt_lt (i := i + 1) hM (by omega) (by rw [h3]; decide) (by rw [h3]; decide)
    have hks : ∃ (ks : List (tm n)) (p : Nat), ls_sp (ft_sp kd pl nu nm v n) (i + 2) ks p ∧ m + 1 + ls_sz (tm_sz n) ks ≤ 60 ∧ (ks ≠ [] ∧ ft_le (kd p) ∧ kd p ≠ 41 ∧ k = p ∨ (ks ≠ [] → ¬ ft_le (kd p)) ∧ ft_bd kd pl nu nm v n p (m + 1 + ls_sz (tm_sz n) ks) k) := by
      rcases hbd with h | ⟨-, h | h | h | h⟩
      · rcases h.1 with q | q
        · omega
        · refine absurd ?_ q
          unfold ft_bg
          exact Or.inr (Or.inr (Or.inl h40))
      · omega
      · omega
      · exact absurd h3 h.2.1
      · exact h.2.2
    obtain ⟨ks, p, g1, g2, g3⟩ := hks
    refine ⟨fun hbg2 I' f1 s1 o1 q1 => ⟨rfl, s_M_formOfRow_96 ?_⟩, fun hnb I' hb => ?_⟩
    · have hcl : fm_cl (I' 106) (o + 1) = o + 1 := if_neg (by rw [o1]; decide)
      cases ks with
      | nil =>
        have e : i + 2 = p := g1
        subst e
        rcases g3 with h | h
        · exact absurd rfl h.1
        · have h2 : ft_bd kd pl nu nm v n (i + 2) (m + 1) k := by simpa [ls_sz] using h.2
          exact again I' (i + 2) (m + 1) (o + 1) f1 s1 (by omega) (by omega) (by omega) (by omega) (fun q => ft_le_nb (Or.inl q) hbg2) h2
      | cons u us =>
        refine hL (u :: us) I' (i + 2) p (m + 1) (o + 1) (mt_fr hM f1) s1 (by omega) g1 g2 (by omega) hcl (fun I2 f2 s2 q2 hp => ?_)
        rcases g3 with h | h
        · obtain ⟨-, hle, h41, e⟩ := h
          subst e
          refine mr_go hB (mt_fr (mt_fr hM f1) f2) s2 hp (by omega) (Or.inr (Or.inr ⟨by omega, h41⟩)) ?_
          exact m_pat hB (mt_fr (mt_fr hM f1) f2) s2 hp (by omega) (by omega) (fun _ I3 hb => ⟨rfl, s_M_formOfRow_96 (mr_bad hB hb.2.2.1 (post I3 (fm_bad_tr (fm_trans f1 f2) hb)))⟩) (fun hv _ _ e he => absurd hle (fun q => by unfold ft_le at q; omega)) (fun _ _ q => absurd hle (fun q2 => by unfold ft_le at q2; omega)) (fun _ _ q => absurd hle (fun q2 => by unfold ft_le at q2; omega)) (fun _ _ q => absurd q (ft_le_nb hle))
        · exact again I2 p _ (o + 1) (fm_trans f1 f2) s2 hp g2 (by omega) (by omega) (fun q => h.1 (by simp) (Or.inl q)) h.2
    · have e : k = i + 2 := by
        cases ks with
        | nil =>
          have e : i + 2 = p := g1
          subst e
          rcases g3 with h | h
          · exact absurd rfl h.1
          · exact ft_bd_nb h.2 hnb
        | cons u us =>
          obtain ⟨q, h1, -⟩ := g1
          exact absurd (ft_sp_bg h1) hnb
      rw [← e] at hb
      exact out I' hb
  · intro hm60 ho6 hbg n126 n33 n4 n40
    refine absurd hbd ?_
    rintro (h | ⟨-, h | h | h | h⟩)
    · rcases h.1 with q | q
      · omega
      · exact q hbg
    · omega
    · exact n4 ⟨h.2.1, h.2.2.1⟩
    · exact n40 h.1
    · exact n40 h.1
theorem md_all (hB : am_B K R) : ∀ n : Nat, mr_D d n0 K J R Q kd pl nu nm c v n := by
  intro n
  induction n with
  | zero => exact md_zero hB
  | succ n ih => exact md_succ hB n ih (mr_all hB n).2
/-- formOfRow: a row that can be read -/
theorem m_row_ok {I : Nat → Nat → Int} {i j m : Nat} {ts : List (tm 6)} (hB : am_B K R) (hM : mt_T I J kd pl nu nm c) (hi : I 101 7 = (i : Int)) (h8 : I 101 8 = 0) (h10 : I 101 10 = (m : Int)) (hc : i ≤ c) (hne : ts ≠ []) (hs : ls_sp (ft_sp kd pl nu nm v 6) i ts j) (hm : m + ls_sz (tm_sz 6) ts ≤ 60) (hnb : ¬ ft_bg v (kd j)) (post : ∀ I' : Nat → Nat → Int, fm_fr I I' → I' 101 7 = (j : Int) → I' 101 8 = 0 → I' 101 10 = ((m + ls_sz (tm_sz 6) ts : Nat) : Int) → j ≤ c → Q none (n0, K, I', J, R)) : am_WP (d + 5) (am_entry 34 [.inr (.inl 101), .inl (xt_v v)] (n0, K, I, J, R)) Q := by
  refine e_M_formOfRow ⟨⟨by decide, (am_kk hB rfl)⟩, ?_⟩
  have f0 : fm_fr I (am_u I 101 13 0) := fm_up (by decide)
  have s0 : fm_S (am_u I 101 13 0) i m 0 := ⟨(am_u_kn (by decide)).trans hi, (am_u_kn (by decide)).trans h8, (am_u_kn (by decide)).trans h10, am_u_kk⟩
  generalize am_u I 101 13 0 = I0 at f0 s0 ⊢
  have hM0 := mt_fr hM f0
  cases ts with
  | nil => exact absurd rfl hne
  | cons t ts =>
    obtain ⟨p, h1, h2⟩ := hs
    have hm : m + (tm_sz 6 t + ls_sz (tm_sz 6) ts) ≤ 60 := hm
    show fm_L d n0 v K J R Q 1 I0
    refine mr_go hB hM0 s0 hc (by omega) (Or.inl (by decide)) ((mr_all hB 6).1 I0 t i p m 0 1 hM0 s0 hc h1 (by omega) rfl (fun I1 f1 s1 _ hp => ?_))
    refine (mr_all hB 6).2 ts I1 p j (m + tm_sz 6 t) 0 (mt_fr hM0 f1) s1 hp h2 (by omega) rfl rfl (fun I2 f2 s2 _ hj => ?_)
    refine mr_end hB (mt_fr (mt_fr hM0 f1) f2) s2 hj hnb (post I2 (fm_trans (fm_trans f0 f1) f2) s2.1 s2.2.1 ?_ hj)
    have := s2.2.2.1
    rw [Nat.add_assoc] at this
    exact this
/-- formOfRow: a row that cannot be read -/
theorem m_row_bad {I : Nat → Nat → Int} {i k m : Nat} (hB : am_B K R) (hM : mt_T I J kd pl nu nm c) (hi : I 101 7 = (i : Int)) (h8 : I 101 8 = 0) (h10 : I 101 10 = (m : Int)) (hc : i ≤ c) (hm : m ≤ 60) (hb : ft_bl kd pl nu nm v 6 i m k) (post : ∀ I' : Nat → Nat → Int, fm_fr I I' → k ≤ c → I' 101 7 = (k : Int) → (I' 101 8 = 1 ∧ I' 101 9 = pl k ∨ I' 101 8 = 0 ∧ ¬ ft_le (kd k)) → Q none (n0, K, I', J, R)) (hk : k ≤ c) : am_WP (d + 5) (am_entry 34 [.inr (.inl 101), .inl (xt_v v)] (n0, K, I, J, R)) Q := by
  refine e_M_formOfRow ⟨⟨by decide, (am_kk hB rfl)⟩, ?_⟩
  have f0 : fm_fr I (am_u I 101 13 0) := fm_up (by decide)
  have s0 : fm_S (am_u I 101 13 0) i m 0 := ⟨(am_u_kn (by decide)).trans hi, (am_u_kn (by decide)).trans h8, (am_u_kn (by decide)).trans h10, am_u_kk⟩
  generalize am_u I 101 13 0 = I0 at f0 s0 ⊢
  have hM0 := mt_fr hM f0
  obtain ⟨ks, p, g1, g2, g3, g4⟩ := hb
  show fm_L d n0 v K J R Q 1 I0
  cases ks with
  | nil =>
    have e : i = p := g1
    subst e
    have g4 : ft_bd kd pl nu nm v 6 i m k := by simpa [ls_sz] using g4
    exact mr_go hB hM0 s0 hc (by omega) (Or.inl (by decide)) (md_all hB 6 I0 i m 0 k 1 hM0 s0 hc hm rfl g4 (fun I1 hb => post I1 (fm_trans f0 hb.1) hk hb.2.1 (Or.inl hb.2.2)))
  | cons t ts =>
    obtain ⟨p1, h1, h2⟩ := g1
    have g2 : m + (tm_sz 6 t + ls_sz (tm_sz 6) ts) ≤ 60 := g2
    have g4 : ft_bd kd pl nu nm v 6 p (m + (tm_sz 6 t + ls_sz (tm_sz 6) ts)) k := g4
    refine mr_go hB hM0 s0 hc (by omega) (Or.inl (by decide)) ((mr_all hB 6).1 I0 t i p1 m 0 1 hM0 s0 hc h1 (by omega) rfl (fun I1 f1 s1 _ hp => ?_))
    refine (mr_all hB 6).2 ts I1 p1 p (m + tm_sz 6 t) 0 (mt_fr hM0 f1) s1 hp h2 (by omega) rfl rfl (fun I2 f2 s2 _ hj => ?_)
    rw [Nat.add_assoc] at s2
    have hM2 := mt_fr (mt_fr hM0 f1) f2
    by_cases hbg : ft_bg v (kd p)
    · exact mr_go hB hM2 s2 hj (by omega) (Or.inr (Or.inl hbg)) (md_all hB 6 I2 p _ 0 k 0 hM2 s2 hj g2 rfl g4 (fun I3 hb => post I3 (fm_trans (fm_trans (fm_trans f0 f1) f2) hb.1) hk hb.2.1 (Or.inl hb.2.2)))
    · have e := ft_bd_nb g4 hbg
      subst e
      exact mr_end hB hM2 s2 hj hbg (post I2 (fm_trans (fm_trans f0 f1) f2) hk s2.1 (Or.inr ⟨s2.2.1, g3 (by simp)⟩))
end MS
