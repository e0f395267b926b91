section AMN
variable {G : am_G} {Zc : am_Z} {l : Launch}
theorem am_tsl_at {x : Int} {k : Nat → Prop} {d : Nat} : ∀ (os : List Int) (lo : Int), am_sw x k d (am_tsl lo os) → (x < lo ∨ lo + (os.length : Int) ≤ x → k d) ∧ (∀ i : Nat, x = lo + (i : Int) → ∀ t, os[i]? = some t → k t.toNat) := by
  intro os
  induction os with
  | nil =>
    intro lo h
    exact ⟨fun _ => h, fun i _ t ht => by simp at ht⟩
  | cons o os ih =>
    intro lo h
    simp only [List.length_cons]
    obtain ⟨a1, a2⟩ := h
    refine ⟨fun hq => ?_, fun i hi t ht => ?_⟩
    · have hne : x ≠ lo := by omega
      exact (ih (lo + 1) (a2 hne)).1 (by omega)
    · cases i with
      | zero =>
        simp at ht
        subst ht
        exact a1 (by omega)
      | succ i =>
        have hne : x ≠ lo := by omega
        exact (ih (lo + 1) (a2 hne)).2 i (by omega) t (by simpa using ht)
theorem am_lsl_at {x : Int} {k : Nat → Prop} {d dd : Int} {pc : Nat} (hd : dd = d - (pc : Int)) : ∀ (ps : List (Int × Int)), (∀ q ∈ ps, 0 ≤ q.2 ∧ -2147483648 ≤ q.1 ∧ q.1 ≤ 2147483647) → am_sw x k d.toNat (am_lsl ps) → ∃ t : Int, Op.lookupswitch.offset (ps.map fun q => (q.1, q.2 - (pc : Int))) dd x = t - (pc : Int) ∧ k t.toNat ∧ (t = d ∨ 0 ≤ t) := by
  intro ps
  induction ps with
  | nil =>
    intro _ h
    exact ⟨d, by rw [hd]; rfl, h, Or.inl rfl⟩
  | cons q ps ih =>
    intro hq h
    obtain ⟨v, t⟩ := q
    obtain ⟨h1, h2⟩ := h
    obtain ⟨b1, b2, b3⟩ := hq _ List.mem_cons_self
    by_cases hx : x = v
    · refine ⟨t, ?_, h1 hx, Or.inr b1⟩
      simp [Op.lookupswitch.offset, hx]
    · obtain ⟨t', g1, g2, g3⟩ := ih (fun q hm => hq q (List.mem_cons_of_mem _ hm)) (h2 hx)
      refine ⟨t', ?_, g2, g3⟩
      rw [← g1]
      simp [Op.lookupswitch.offset, hx, Ne.symm hx]
set_option maxHeartbeats 8000000 in
/-- THE SMALL MACHINE SPEAKS TRULY OF THE LARGE ONE -/
theorem am_sound (hchk : am_Chk G Zc l) (hok : ∀ m pc i nx ix, am_code m pc = some (i, nx, ix) → am_okI m pc i nx ix) (hOK : ∀ (ci : Nat) (q : vw_C), am_cls[ci]? = some q → am_okK ci q) : am_pre (am_Sem G Zc l) := by
  intro d cf Q h
  obtain ⟨m, pc, ls, st, ct, n, K, I, L, Rf⟩ := cf
  intro p e R s mid args below meth c H locs lsA Z hX hH hS hl hgl hgs hct hret
  unfold am_step at h
  dsimp only at h
  split at h
  · exact h.elim
  rename_i i nx ix hcode
  have ok := hok m pc i nx ix hcode
  clear hcode
  have hX' := hX
  obtain ⟨hx, hb, hml, hown, hnm, hts, hK, hCs, hB, hfr, hlo, hbc, hbs⟩ := hX
  cases i with
  | iconst v => obtain ⟨⟨hd, hnx⟩, hw⟩ := ok; subst hnx; exact lv_iconst hx hb hd rfl (h p e R s mid args below meth c H locs lsA Z hX' hH hS hl hgl (am_rgs_cons hw hgs) hct hret)
  | bipush v => obtain ⟨⟨hd, hnx⟩, hw⟩ := ok; subst hnx; exact lv_bipush hx hb hd (am_b8 hw) (h p e R s mid args below meth c H locs lsA Z hX' hH hS hl hgl (am_rgs_cons (v := .inl v) (show -2147483648 ≤ v ∧ v ≤ 2147483647 by have h1 : -128 ≤ v ∧ v ≤ 127 := hw; omega) hgs) hct hret)
  | sipush v => obtain ⟨⟨hd, hnx⟩, hw⟩ := ok; subst hnx; exact lv_sipush hx hb hd (am_b16 hw) (h p e R s mid args below meth c H locs lsA Z hX' hH hS hl hgl (am_rgs_cons (v := .inl v) (show -2147483648 ≤ v ∧ v ≤ 2147483647 by have h1 : -32768 ≤ v ∧ v ≤ 32767 := hw; omega) hgs) hct hret)
  | lconst v => obtain ⟨⟨hd, hnx⟩, hw⟩ := ok; subst hnx; exact lv_lconst hx hb hd Int64.ofInt_eq_ofNat.symm (h p e R s mid args below meth c H locs lsA Z hX' hH hS hl hgl (am_rgs_cons (v := .inr (.inr (some ((v : Nat) : Int)))) (show -9223372036854775808 ≤ ((v : Nat) : Int) ∧ ((v : Nat) : Int) ≤ 9223372036854775807 by have h1 : (v : Nat) < 2 := v.isLt; omega) hgs) hct hret)
  | jsr v => obtain ⟨⟨hd, hnx⟩, hw⟩ := ok; subst hnx; exact lv_ldc hx hb hown (hts _ hw.2) hd (h p e R s mid args below meth c H locs lsA Z hX' hH hS hl hgl (am_rgs_cons hw.1 hgs) hct hret)
  | jsr_w v => obtain ⟨⟨hd, hnx⟩, hw⟩ := ok; subst hnx; exact lv_ldc2 hx hb hown (hts _ hw.2) hd (h p e R s mid args below meth c H locs lsA Z hX' hH hS hl hgl (am_rgs_cons hw.1 hgs) hct hret)
  | goto_w v => obtain ⟨⟨hd, hnx⟩, hw⟩ := ok; subst hnx; exact lv_ldcw hx hb hown (hts _ hw.2) hd (h p e R s mid args below meth c H locs lsA Z hX' hH hS hl hgl (am_rgs_cons hw.1 hgs) hct hret)
  | ldc a => obtain ⟨⟨hd, hnx⟩, hw⟩ := ok; subst hnx; obtain ⟨tx, hw⟩ := hw; exact va_ldcS hx hb hown (hCs.2.1 _ hw) hd (h p e R s mid args below meth c H locs lsA Z hX' hH hS hl hgl (am_rgs_cons (v := .inr (.inl a)) trivial hgs) hct hret)
  | getstatic v => obtain ⟨⟨hd, hnx⟩, hw⟩ := ok; subst hnx; obtain ⟨hv, C, f, g, hw, hw2⟩ := hw; exact va_gets hx hb (hCs.2.2.1 _ hw) hS hown (hts _ hw2) (fun _ h9 => h9) hd (h p e R s mid args below meth c H locs lsA Z hX' hH hS hl hgl (am_rgs_cons (v := .inl (v : Int)) (show -2147483648 ≤ (v : Int) ∧ (v : Int) ≤ 2147483647 by omega) hgs) hct hret)
  | iload j => obtain ⟨⟨hd, hnx⟩, hw⟩ := ok; subst hnx; obtain ⟨x, hv, h⟩ := am_gi_e h; exact lv_iload hx hb hd (am_lh_at hl hv rfl) (h p e R s mid args below meth c H locs lsA Z hX' hH hS hl hgl (am_rgs_cons (hgl _ (List.mem_of_getElem? hv)) hgs) hct hret)
  | iload_n j => obtain ⟨⟨hd, hnx⟩, hw⟩ := ok; subst hnx; obtain ⟨x, hv, h⟩ := am_gi_e h; exact lv_iload_n hx hb hd rfl (am_lh_at hl hv rfl) (h p e R s mid args below meth c H locs lsA Z hX' hH hS hl hgl (am_rgs_cons (hgl _ (List.mem_of_getElem? hv)) hgs) hct hret)
  | lload j => obtain ⟨⟨hd, hnx⟩, hw⟩ := ok; subst hnx; obtain ⟨x, hv, h⟩ := am_gl_e h; exact lv_lload hx hb hd (am_lh_at hl hv rfl) (h p e R s mid args below meth c H locs lsA Z hX' hH hS hl hgl (am_rgs_cons (hgl _ (List.mem_of_getElem? hv)) hgs) hct hret)
  | lload_n j => obtain ⟨⟨hd, hnx⟩, hw⟩ := ok; subst hnx; obtain ⟨x, hv, h⟩ := am_gl_e h; exact lv_lload_n hx hb hd rfl (am_lh_at hl hv rfl) (h p e R s mid args below meth c H locs lsA Z hX' hH hS hl hgl (am_rgs_cons (hgl _ (List.mem_of_getElem? hv)) hgs) hct hret)
  | aload j => obtain ⟨⟨hd, hnx⟩, hw⟩ := ok; subst hnx; obtain ⟨x, hv, h⟩ := am_ga_e h; exact lv_aload hx hb hd (am_lh_at hl hv rfl) (h p e R s mid args below meth c H locs lsA Z hX' hH hS hl hgl (am_rgs_cons (hgl _ (List.mem_of_getElem? hv)) hgs) hct hret)
  | aload_n j => obtain ⟨⟨hd, hnx⟩, hw⟩ := ok; subst hnx; obtain ⟨x, hv, h⟩ := am_ga_e h; exact lv_aload_n hx hb hd rfl (am_lh_at hl hv rfl) (h p e R s mid args below meth c H locs lsA Z hX' hH hS hl hgl (am_rgs_cons (hgl _ (List.mem_of_getElem? hv)) hgs) hct hret)
  | istore j => obtain ⟨⟨hd, hnx⟩, hw⟩ := ok; subst hnx; obtain ⟨x, r, rfl, h⟩ := am_i1_e h; exact lv_istore hx hb hd hl hw rfl (fun lsA' hl' => h p e R s mid args below meth c H locs lsA' Z hX' hH hS (am_lh_st1 (v := .inl x) hl') (am_rgs_st1 hgl (am_rgs_hd hgs)) (am_rgs_tl hgs) hct hret)
  | istore_n j => obtain ⟨⟨hd, hnx⟩, hw⟩ := ok; subst hnx; obtain ⟨x, r, rfl, h⟩ := am_i1_e h; exact lv_istore_n hx hb hd rfl hl hw rfl (fun lsA' hl' => h p e R s mid args below meth c H locs lsA' Z hX' hH hS (am_lh_st1 (v := .inl x) hl') (am_rgs_st1 hgl (am_rgs_hd hgs)) (am_rgs_tl hgs) hct hret)
  | lstore j => obtain ⟨⟨hd, hnx⟩, hw⟩ := ok; subst hnx; obtain ⟨x, r, rfl, h⟩ := am_l1_e h; exact lv_lstore hx hb hd hl hw rfl (fun lsA' hl' => h p e R s mid args below meth c H locs lsA' Z hX' hH hS (am_lh_st2 (v := .inr (.inr (some x))) hl') (am_rgs_st2 hgl (am_rgs_hd hgs)) (am_rgs_tl hgs) hct hret)
  | lstore_n j => obtain ⟨⟨hd, hnx⟩, hw⟩ := ok; subst hnx; obtain ⟨x, r, rfl, h⟩ := am_l1_e h; exact lv_lstore_n hx hb hd rfl hl hw rfl (fun lsA' hl' => h p e R s mid args below meth c H locs lsA' Z hX' hH hS (am_lh_st2 (v := .inr (.inr (some x))) hl') (am_rgs_st2 hgl (am_rgs_hd hgs)) (am_rgs_tl hgs) hct hret)
  | astore j => obtain ⟨⟨hd, hnx⟩, hw⟩ := ok; subst hnx; obtain ⟨x, r, rfl, h⟩ := am_r1_e h; exact lv_astore hx hb hd hl hw rfl (fun lsA' hl' => h p e R s mid args below meth c H locs lsA' Z hX' hH hS (am_lh_st1 (v := .inr (.inl x)) hl') (am_rgs_st1 hgl (am_rgs_hd hgs)) (am_rgs_tl hgs) hct hret)
  | astore_n j => obtain ⟨⟨hd, hnx⟩, hw⟩ := ok; subst hnx; obtain ⟨x, r, rfl, h⟩ := am_r1_e h; exact lv_astore_n hx hb hd rfl hl hw rfl (fun lsA' hl' => h p e R s mid args below meth c H locs lsA' Z hX' hH hS (am_lh_st1 (v := .inr (.inl x)) hl') (am_rgs_st1 hgl (am_rgs_hd hgs)) (am_rgs_tl hgs) hct hret)
  | iinc j v =>
    obtain ⟨⟨hd, hnx⟩, hw⟩ := ok
    subst hnx
    obtain ⟨x, hv, h⟩ := am_gi_e h
    obtain ⟨z, hz, hr, h⟩ := am_e_add h
    obtain ⟨k0, hk0⟩ := List.getElem?_of_mem ((am_prs_mem (ρ := am_r G) ls 0 (j, .int (Int32.ofInt x))).mpr ⟨j, .inl x, hv, rfl, by simp [am_cv]⟩)
    exact lv_iinc hx hb hd hl hk0 hz hw rfl (fun lsA' hl' => h p e R s mid args below meth c H locs lsA' Z hX' hH hS (am_lh_st1 (v := .inl z) hl') (am_rgs_st1 hgl hr) hgs hct hret)
  | iadd => obtain ⟨⟨hd, hnx⟩, hw⟩ := ok; subst hnx; obtain ⟨x, y, r, rfl, h⟩ := am_i2_e h; obtain ⟨z, hz, hr, h⟩ := am_e_add h; refine lv_iadd hx hb hd ?_; rw [hz]; exact h p e R s mid args below meth c H locs lsA Z hX' hH hS hl hgl (am_rgs_cons (v := .inl z) hr (am_rgs_tl (am_rgs_tl hgs))) hct hret
  | isub => obtain ⟨⟨hd, hnx⟩, hw⟩ := ok; subst hnx; obtain ⟨x, y, r, rfl, h⟩ := am_i2_e h; obtain ⟨z, hz, hr, h⟩ := am_e_sub h; refine lv_isub hx hb hd ?_; rw [hz]; exact h p e R s mid args below meth c H locs lsA Z hX' hH hS hl hgl (am_rgs_cons (v := .inl z) hr (am_rgs_tl (am_rgs_tl hgs))) hct hret
  | imul => obtain ⟨⟨hd, hnx⟩, hw⟩ := ok; subst hnx; obtain ⟨x, y, r, rfl, h⟩ := am_i2_e h; obtain ⟨z, hz, hr, h⟩ := am_e_mul h; refine lv_imul hx hb hd ?_; rw [hz]; exact h p e R s mid args below meth c H locs lsA Z hX' hH hS hl hgl (am_rgs_cons (v := .inl z) hr (am_rgs_tl (am_rgs_tl hgs))) hct hret
  | iand => obtain ⟨⟨hd, hnx⟩, hw⟩ := ok; subst hnx; obtain ⟨x, y, r, rfl, h⟩ := am_i2_e h; obtain ⟨z, hz, hr, h⟩ := am_nm_e (y := Int32.ofInt x &&& Int32.ofInt y) h; refine lv_iand hx hb hd ?_; rw [hz]; exact h p e R s mid args below meth c H locs lsA Z hX' hH hS hl hgl (am_rgs_cons (v := .inl z) hr (am_rgs_tl (am_rgs_tl hgs))) hct hret
  | ior => obtain ⟨⟨hd, hnx⟩, hw⟩ := ok; subst hnx; obtain ⟨x, y, r, rfl, h⟩ := am_i2_e h; obtain ⟨z, hz, hr, h⟩ := am_nm_e (y := Int32.ofInt x ||| Int32.ofInt y) h; refine lv_ior hx hb hd ?_; rw [hz]; exact h p e R s mid args below meth c H locs lsA Z hX' hH hS hl hgl (am_rgs_cons (v := .inl z) hr (am_rgs_tl (am_rgs_tl hgs))) hct hret
  | ixor => obtain ⟨⟨hd, hnx⟩, hw⟩ := ok; subst hnx; obtain ⟨x, y, r, rfl, h⟩ := am_i2_e h; obtain ⟨z, hz, hr, h⟩ := am_nm_e (y := Int32.ofInt x ^^^ Int32.ofInt y) h; refine lv_ixor hx hb hd ?_; rw [hz]; exact h p e R s mid args below meth c H locs lsA Z hX' hH hS hl hgl (am_rgs_cons (v := .inl z) hr (am_rgs_tl (am_rgs_tl hgs))) hct hret
  | ishl => obtain ⟨⟨hd, hnx⟩, hw⟩ := ok; subst hnx; obtain ⟨x, y, r, rfl, h⟩ := am_i2_e h; obtain ⟨z, hz, hr, h⟩ := am_nm_e (y := Int32.ofInt x <<< (Int32.ofInt y &&& 31)) h; refine lv_ishl hx hb hd ?_; rw [hz]; exact h p e R s mid args below meth c H locs lsA Z hX' hH hS hl hgl (am_rgs_cons (v := .inl z) hr (am_rgs_tl (am_rgs_tl hgs))) hct hret
  | ishr => obtain ⟨⟨hd, hnx⟩, hw⟩ := ok; subst hnx; obtain ⟨x, y, r, rfl, h⟩ := am_i2_e h; obtain ⟨z, hz, hr, h⟩ := am_nm_e (y := Int32.ofInt x >>> (Int32.ofInt y &&& 31)) h; refine lv_ishr hx hb hd ?_; rw [hz]; exact h p e R s mid args below meth c H locs lsA Z hX' hH hS hl hgl (am_rgs_cons (v := .inl z) hr (am_rgs_tl (am_rgs_tl hgs))) hct hret
  | iushr => obtain ⟨⟨hd, hnx⟩, hw⟩ := ok; subst hnx; obtain ⟨x, y, r, rfl, h⟩ := am_i2_e h; obtain ⟨z, hz, hr, h⟩ := am_nm_e (y := ((Int32.ofInt x).toUInt32 >>> ((Int32.ofInt y).toUInt32 &&& Int32.toUInt32 31)).toInt32) h; exact lv_iushr hx hb hd hz (h p e R s mid args below meth c H locs lsA Z hX' hH hS hl hgl (am_rgs_cons (v := .inl z) hr (am_rgs_tl (am_rgs_tl hgs))) hct hret)
  | idiv =>
    obtain ⟨⟨hd, hnx⟩, hw⟩ := ok
    subst hnx
    obtain ⟨x, y, r, rfl, h0, h⟩ := am_i2_e h
    obtain ⟨z, hz, hr, h⟩ := am_nm_e (y := Int32.ofInt x / Int32.ofInt y) h
    have hry : -2147483648 ≤ y ∧ y ≤ 2147483647 := am_rgs_hd hgs
    refine lv_idiv hx hb hd (fun q => h0 ?_) ?_
    · rw [am_zI] at q
      exact (am_eqI hry ⟨by decide, by decide⟩).mp q
    · rw [hz]
      exact h p e R s mid args below meth c H locs lsA Z hX' hH hS hl hgl (am_rgs_cons (v := .inl z) hr (am_rgs_tl (am_rgs_tl hgs))) hct hret
  | irem =>
    obtain ⟨⟨hd, hnx⟩, hw⟩ := ok
    subst hnx
    obtain ⟨x, y, r, rfl, h0, h⟩ := am_i2_e h
    obtain ⟨z, hz, hr, h⟩ := am_nm_e (y := Int32.ofInt x - Int32.ofInt x / Int32.ofInt y * Int32.ofInt y) h
    have hry : -2147483648 ≤ y ∧ y ≤ 2147483647 := am_rgs_hd hgs
    refine lv_irem hx hb hd (fun q => h0 ?_) ?_
    · rw [am_zI] at q
      exact (am_eqI hry ⟨by decide, by decide⟩).mp q
    · rw [hz]
      exact h p e R s mid args below meth c H locs lsA Z hX' hH hS hl hgl (am_rgs_cons (v := .inl z) hr (am_rgs_tl (am_rgs_tl hgs))) hct hret
  | ineg => obtain ⟨⟨hd, hnx⟩, hw⟩ := ok; subst hnx; obtain ⟨x, r, rfl, h⟩ := am_i1_e h; obtain ⟨z, hz, hr, h⟩ := am_e_neg h; refine lv_ineg hx hb hd ?_; rw [hz]; exact h p e R s mid args below meth c H locs lsA Z hX' hH hS hl hgl (am_rgs_cons (v := .inl z) hr (am_rgs_tl hgs)) hct hret
  | i2l => obtain ⟨⟨hd, hnx⟩, hw⟩ := ok; subst hnx; obtain ⟨x, r, rfl, h⟩ := am_i1_e h; have hrx : -2147483648 ≤ x ∧ x ≤ 2147483647 := am_rgs_hd hgs; exact lv_i2l hx hb hd (am_i2l hrx) (h p e R s mid args below meth c H locs lsA Z hX' hH hS hl hgl (am_rgs_cons (v := .inr (.inr (some x))) (show -9223372036854775808 ≤ x ∧ x ≤ 9223372036854775807 by omega) (am_rgs_tl hgs)) hct hret)
  | i2c => obtain ⟨⟨hd, hnx⟩, hw⟩ := ok; subst hnx; obtain ⟨x, r, rfl, h⟩ := am_i1_e h; obtain ⟨z, hz, hr, h⟩ := am_nm_e (y := ((Int32.ofInt x).toUInt32 % 65536).toInt32) h; exact lv_i2c hx hb hd hz (h p e R s mid args below meth c H locs lsA Z hX' hH hS hl hgl (am_rgs_cons (v := .inl z) hr (am_rgs_tl hgs)) hct hret)
  | i2b => obtain ⟨⟨hd, hnx⟩, hw⟩ := ok; subst hnx; obtain ⟨x, r, rfl, h⟩ := am_i1_e h; obtain ⟨z, hz, hr, h⟩ := am_nm_e (y := (Int32.ofInt x).toInt8.toInt32) h; exact lv_i2b hx hb hd hz (h p e R s mid args below meth c H locs lsA Z hX' hH hS hl hgl (am_rgs_cons (v := .inl z) hr (am_rgs_tl hgs)) hct hret)
  | l2i => obtain ⟨⟨hd, hnx⟩, hw⟩ := ok; subst hnx; obtain ⟨x, r, rfl, h⟩ := am_l1_e h; obtain ⟨z, hz, hr, h⟩ := am_nm_e (y := (Int64.ofInt x).toInt32) h; exact lv_l2i hx hb hd hz (h p e R s mid args below meth c H locs lsA Z hX' hH hS hl hgl (am_rgs_cons (v := .inl z) hr (am_rgs_tl hgs)) hct hret)
  | ladd => obtain ⟨⟨hd, hnx⟩, hw⟩ := ok; subst hnx; obtain ⟨x, y, r, rfl, h⟩ := am_l2_e h; obtain ⟨z, hz, hr, h⟩ := am_e_ladd h; refine lv_ladd hx hb hd ?_; rw [hz]; exact h p e R s mid args below meth c H locs lsA Z hX' hH hS hl hgl (am_rgs_cons (v := .inr (.inr (some z))) hr (am_rgs_tl (am_rgs_tl hgs))) hct hret
  | lsub => obtain ⟨⟨hd, hnx⟩, hw⟩ := ok; subst hnx; obtain ⟨x, y, r, rfl, h⟩ := am_l2_e h; obtain ⟨z, hz, hr, h⟩ := am_e_lsub h; refine lv_lsub hx hb hd ?_; rw [hz]; exact h p e R s mid args below meth c H locs lsA Z hX' hH hS hl hgl (am_rgs_cons (v := .inr (.inr (some z))) hr (am_rgs_tl (am_rgs_tl hgs))) hct hret
  | lmul => obtain ⟨⟨hd, hnx⟩, hw⟩ := ok; subst hnx; obtain ⟨x, y, r, rfl, h⟩ := am_l2_e h; obtain ⟨z, hz, hr, h⟩ := am_e_lmul h; refine lv_lmul hx hb hd ?_; rw [hz]; exact h p e R s mid args below meth c H locs lsA Z hX' hH hS hl hgl (am_rgs_cons (v := .inr (.inr (some z))) hr (am_rgs_tl (am_rgs_tl hgs))) hct hret
  | land => obtain ⟨⟨hd, hnx⟩, hw⟩ := ok; subst hnx; obtain ⟨x, y, r, rfl, h⟩ := am_l2_e h; obtain ⟨z, hz, hr, h⟩ := am_nl_e (y := Int64.ofInt x &&& Int64.ofInt y) h; refine lv_land hx hb hd ?_; rw [hz]; exact h p e R s mid args below meth c H locs lsA Z hX' hH hS hl hgl (am_rgs_cons (v := .inr (.inr (some z))) hr (am_rgs_tl (am_rgs_tl hgs))) hct hret
  | lor => obtain ⟨⟨hd, hnx⟩, hw⟩ := ok; subst hnx; obtain ⟨x, y, r, rfl, h⟩ := am_l2_e h; obtain ⟨z, hz, hr, h⟩ := am_nl_e (y := Int64.ofInt x ||| Int64.ofInt y) h; refine lv_lor hx hb hd ?_; rw [hz]; exact h p e R s mid args below meth c H locs lsA Z hX' hH hS hl hgl (am_rgs_cons (v := .inr (.inr (some z))) hr (am_rgs_tl (am_rgs_tl hgs))) hct hret
  | lxor => obtain ⟨⟨hd, hnx⟩, hw⟩ := ok; subst hnx; obtain ⟨x, y, r, rfl, h⟩ := am_l2_e h; obtain ⟨z, hz, hr, h⟩ := am_nl_e (y := Int64.ofInt x ^^^ Int64.ofInt y) h; refine lv_lxor hx hb hd ?_; rw [hz]; exact h p e R s mid args below meth c H locs lsA Z hX' hH hS hl hgl (am_rgs_cons (v := .inr (.inr (some z))) hr (am_rgs_tl (am_rgs_tl hgs))) hct hret
  | lcmp =>
    obtain ⟨⟨hd, hnx⟩, hw⟩ := ok
    subst hnx
    obtain ⟨x, y, r, rfl, h⟩ := am_l2_e h
    have hry : -9223372036854775808 ≤ y ∧ y ≤ 9223372036854775807 := am_rgs_hd hgs
    have hrx : -9223372036854775808 ≤ x ∧ x ≤ 9223372036854775807 := am_rgs_hd (am_rgs_tl hgs)
    have hr : -2147483648 ≤ am_lc x y ∧ am_lc x y ≤ 2147483647 := by
      unfold am_lc
      split
      · decide
      · split <;> decide
    refine W.lcmp hx hb hd ?_
    rw [am_lcI hrx hry]
    exact h _ rfl hr.1 hr.2 p e R s mid args below meth c H locs lsA Z hX' hH hS hl hgl (am_rgs_cons (v := .inl (am_lc x y)) hr (am_rgs_tl (am_rgs_tl hgs))) hct hret
  | lshl => obtain ⟨⟨hd, hnx⟩, hw⟩ := ok; subst hnx; obtain ⟨x, y, r, rfl, h⟩ := am_li_e h; obtain ⟨z, hz, hr, h⟩ := am_nl_e (y := Int64.ofInt x <<< ((Int32.ofInt y).toInt64 &&& 63)) h; exact lv_lshl hx hb hd hz (h p e R s mid args below meth c H locs lsA Z hX' hH hS hl hgl (am_rgs_cons (v := .inr (.inr (some z))) hr (am_rgs_tl (am_rgs_tl hgs))) hct hret)
  | lshr => obtain ⟨⟨hd, hnx⟩, hw⟩ := ok; subst hnx; obtain ⟨x, y, r, rfl, h⟩ := am_li_e h; obtain ⟨z, hz, hr, h⟩ := am_nl_e (y := Int64.ofInt x >>> ((Int32.ofInt y).toInt64 &&& 63)) h; exact lv_lshr hx hb hd hz (h p e R s mid args below meth c H locs lsA Z hX' hH hS hl hgl (am_rgs_cons (v := .inr (.inr (some z))) hr (am_rgs_tl (am_rgs_tl hgs))) hct hret)
  | lushr => obtain ⟨⟨hd, hnx⟩, hw⟩ := ok; subst hnx; obtain ⟨x, y, r, rfl, h⟩ := am_li_e h; obtain ⟨z, hz, hr, h⟩ := am_nl_e (y := ((Int64.ofInt x).toUInt64 >>> ((Int32.ofInt y).toInt64.toUInt64 &&& Int64.toUInt64 63)).toInt64) h; exact lv_lushr hx hb hd hz (h p e R s mid args below meth c H locs lsA Z hX' hH hS hl hgl (am_rgs_cons (v := .inr (.inr (some z))) hr (am_rgs_tl (am_rgs_tl hgs))) hct hret)
  | dup => obtain ⟨⟨hd, hnx⟩, hw⟩ := ok; subst hnx; obtain ⟨v, r, rfl, hv, h⟩ := am_v1_e h; exact lv_dup hx hb hd (by rw [am_cv_cat]; exact hv) (h p e R s mid args below meth c H locs lsA Z hX' hH hS hl hgl (am_rgs_cons (am_rgs_hd hgs) hgs) hct hret)
  | pop => obtain ⟨⟨hd, hnx⟩, hw⟩ := ok; subst hnx; obtain ⟨v, r, rfl, hv, h⟩ := am_v1_e h; exact lv_pop hx hb hd (by rw [am_cv_cat]; exact hv) (h p e R s mid args below meth c H locs lsA Z hX' hH hS hl hgl (am_rgs_tl hgs) hct hret)
  | dup_x1 => obtain ⟨⟨hd, hnx⟩, hw⟩ := ok; subst hnx; obtain ⟨v, w, r, rfl, hv, hw2, h⟩ := am_v2_e h; exact lv_dup_x1 hx hb hd (by rw [am_cv_cat]; exact hv) (by rw [am_cv_cat]; exact hw2) (h p e R s mid args below meth c H locs lsA Z hX' hH hS hl hgl (am_rgs_cons (am_rgs_hd hgs) (am_rgs_cons (am_rgs_hd (am_rgs_tl hgs)) (am_rgs_cons (am_rgs_hd hgs) (am_rgs_tl (am_rgs_tl hgs))))) hct hret)
  | dup2 => obtain ⟨⟨hd, hnx⟩, hw⟩ := ok; subst hnx; obtain ⟨v, w, r, rfl, hv, hw2, h⟩ := am_v2_e h; exact lv_dup2_11 hx hb hd (by rw [am_cv_cat]; exact hv) (by rw [am_cv_cat]; exact hw2) (h p e R s mid args below meth c H locs lsA Z hX' hH hS hl hgl (am_rgs_cons (am_rgs_hd hgs) (am_rgs_cons (am_rgs_hd (am_rgs_tl hgs)) hgs)) hct hret)
  | ifCond cc t =>
    obtain ⟨⟨hd, hnx⟩, ht⟩ := ok
    subst hnx
    have ht : 0 ≤ t := ht
    obtain ⟨x, r, rfl, h⟩ := am_i1_e h
    have et : (pc : Int) + (t - (pc : Int)) = (t.toNat : Int) := by omega
    have hrx : -2147483648 ≤ x ∧ x ≤ 2147483647 := am_rgs_hd hgs
    have hry : -2147483648 ≤ (0 : Int) ∧ (0 : Int) ≤ 2147483647 := ⟨by decide, by decide⟩
    cases cc with
    | eq => exact lv_if_eq hx hb hd et (fun q => h.1 (by rw [am_zI] at q; exact (am_eqI hrx hry).mp q) p e R s mid args below meth c H locs lsA Z hX' hH hS hl hgl (am_rgs_tl hgs) hct hret) (fun q => h.2 (by rw [am_zI] at q; exact fun w => q ((am_eqI hrx hry).mpr w)) p e R s mid args below meth c H locs lsA Z hX' hH hS hl hgl (am_rgs_tl hgs) hct hret)
    | ne => exact lv_if_ne hx hb hd et (fun q => h.1 (by rw [am_zI] at q; exact fun w => q ((am_eqI hrx hry).mpr w)) p e R s mid args below meth c H locs lsA Z hX' hH hS hl hgl (am_rgs_tl hgs) hct hret) (fun q => h.2 (by rw [am_zI] at q; exact (am_eqI hrx hry).mp q) p e R s mid args below meth c H locs lsA Z hX' hH hS hl hgl (am_rgs_tl hgs) hct hret)
    | lt => exact lv_if_lt hx hb hd et (fun q => h.1 (by rw [am_zI] at q; exact (am_ltI hrx hry).mp q) p e R s mid args below meth c H locs lsA Z hX' hH hS hl hgl (am_rgs_tl hgs) hct hret) (fun q => h.2 (by rw [am_zI] at q; exact Int.not_lt.mp fun w => q ((am_ltI hrx hry).mpr w)) p e R s mid args below meth c H locs lsA Z hX' hH hS hl hgl (am_rgs_tl hgs) hct hret)
    | ge => exact lv_if_ge hx hb hd et (fun q => h.1 (by rw [am_zI] at q; exact (am_leI hry hrx).mp q) p e R s mid args below meth c H locs lsA Z hX' hH hS hl hgl (am_rgs_tl hgs) hct hret) (fun q => h.2 (by rw [am_zI] at q; exact Int.not_le.mp fun w => q ((am_leI hry hrx).mpr w)) p e R s mid args below meth c H locs lsA Z hX' hH hS hl hgl (am_rgs_tl hgs) hct hret)
    | gt => exact lv_if_gt hx hb hd et (fun q => h.1 (by rw [am_zI] at q; exact (am_ltI hry hrx).mp q) p e R s mid args below meth c H locs lsA Z hX' hH hS hl hgl (am_rgs_tl hgs) hct hret) (fun q => h.2 (by rw [am_zI] at q; exact Int.not_lt.mp fun w => q ((am_ltI hry hrx).mpr w)) p e R s mid args below meth c H locs lsA Z hX' hH hS hl hgl (am_rgs_tl hgs) hct hret)
    | le => exact lv_if_le hx hb hd et (fun q => h.1 (by rw [am_zI] at q; exact (am_leI hrx hry).mp q) p e R s mid args below meth c H locs lsA Z hX' hH hS hl hgl (am_rgs_tl hgs) hct hret) (fun q => h.2 (by rw [am_zI] at q; exact Int.not_le.mp fun w => q ((am_leI hrx hry).mpr w)) p e R s mid args below meth c H locs lsA Z hX' hH hS hl hgl (am_rgs_tl hgs) hct hret)
  | if_icmp cc t =>
    obtain ⟨⟨hd, hnx⟩, ht⟩ := ok
    subst hnx
    have ht : 0 ≤ t := ht
    obtain ⟨x, y, r, rfl, h⟩ := am_i2_e h
    have et : (pc : Int) + (t - (pc : Int)) = (t.toNat : Int) := by omega
    have hry : -2147483648 ≤ y ∧ y ≤ 2147483647 := am_rgs_hd hgs
    have hrx : -2147483648 ≤ x ∧ x ≤ 2147483647 := am_rgs_hd (am_rgs_tl hgs)
    cases cc with
    | eq => exact lv_icmp_eq hx hb hd et (fun q => h.1 (by exact (am_eqI hrx hry).mp q) p e R s mid args below meth c H locs lsA Z hX' hH hS hl hgl (am_rgs_tl (am_rgs_tl hgs)) hct hret) (fun q => h.2 (by exact fun w => q ((am_eqI hrx hry).mpr w)) p e R s mid args below meth c H locs lsA Z hX' hH hS hl hgl (am_rgs_tl (am_rgs_tl hgs)) hct hret)
    | ne => exact lv_icmp_ne hx hb hd et (fun q => h.1 (by exact fun w => q ((am_eqI hrx hry).mpr w)) p e R s mid args below meth c H locs lsA Z hX' hH hS hl hgl (am_rgs_tl (am_rgs_tl hgs)) hct hret) (fun q => h.2 (by exact (am_eqI hrx hry).mp q) p e R s mid args below meth c H locs lsA Z hX' hH hS hl hgl (am_rgs_tl (am_rgs_tl hgs)) hct hret)
    | lt => exact lv_icmp_lt hx hb hd et (fun q => h.1 (by exact (am_ltI hrx hry).mp q) p e R s mid args below meth c H locs lsA Z hX' hH hS hl hgl (am_rgs_tl (am_rgs_tl hgs)) hct hret) (fun q => h.2 (by exact Int.not_lt.mp fun w => q ((am_ltI hrx hry).mpr w)) p e R s mid args below meth c H locs lsA Z hX' hH hS hl hgl (am_rgs_tl (am_rgs_tl hgs)) hct hret)
    | ge => exact lv_icmp_ge hx hb hd et (fun q => h.1 (by exact (am_leI hry hrx).mp q) p e R s mid args below meth c H locs lsA Z hX' hH hS hl hgl (am_rgs_tl (am_rgs_tl hgs)) hct hret) (fun q => h.2 (by exact Int.not_le.mp fun w => q ((am_leI hry hrx).mpr w)) p e R s mid args below meth c H locs lsA Z hX' hH hS hl hgl (am_rgs_tl (am_rgs_tl hgs)) hct hret)
    | gt => exact lv_icmp_gt hx hb hd et (fun q => h.1 (by exact (am_ltI hry hrx).mp q) p e R s mid args below meth c H locs lsA Z hX' hH hS hl hgl (am_rgs_tl (am_rgs_tl hgs)) hct hret) (fun q => h.2 (by exact Int.not_lt.mp fun w => q ((am_ltI hry hrx).mpr w)) p e R s mid args below meth c H locs lsA Z hX' hH hS hl hgl (am_rgs_tl (am_rgs_tl hgs)) hct hret)
    | le => exact lv_icmp_le hx hb hd et (fun q => h.1 (by exact (am_leI hrx hry).mp q) p e R s mid args below meth c H locs lsA Z hX' hH hS hl hgl (am_rgs_tl (am_rgs_tl hgs)) hct hret) (fun q => h.2 (by exact Int.not_le.mp fun w => q ((am_leI hrx hry).mpr w)) p e R s mid args below meth c H locs lsA Z hX' hH hS hl hgl (am_rgs_tl (am_rgs_tl hgs)) hct hret)
  | goto t =>
    obtain ⟨⟨hd, -⟩, ht⟩ := ok
    have ht : 0 ≤ t := ht
    exact lv_goto hx hb hd (show (pc : Int) + (t - (pc : Int)) = (t.toNat : Int) by omega) (h p e R s mid args below meth c H locs lsA Z hX' hH hS hl hgl hgs hct hret)
  | tableswitch t lo hi os =>
    obtain ⟨⟨hd, -⟩, ht, hos, hhi, h1, h2⟩ := ok
    obtain ⟨x, r, rfl, h⟩ := am_i1_e h
    have hrx : -2147483648 ≤ x ∧ x ≤ 2147483647 := am_rgs_hd hgs
    have exx := am_to hrx
    obtain ⟨a1, a2⟩ := am_tsl_at os.toList lo h
    by_cases hout : x < lo ∨ hi < x
    · exact lv_tableOut hx hb hd (by rw [exx]; exact hout) (show (pc : Int) + (t - (pc : Int)) = (t.toNat : Int) by omega) (a1 (by omega) p e R s mid args below meth c H locs lsA Z hX' hH hS hl hgl (am_rgs_tl hgs) hct hret)
    · have hi' : (x - lo).toNat < os.toList.length := by omega
      obtain ⟨o, ho⟩ : ∃ o, os.toList[(x - lo).toNat]? = some o := ⟨_, List.getElem?_eq_getElem hi'⟩
      have ho0 : 0 ≤ o := hos o (List.mem_of_getElem? ho)
      refine lv_tableIn (off := o - (pc : Int)) (tgt := o.toNat) hx hb hd (by rw [exx]; omega) (by rw [exx]; omega) ?_ (by omega) (a2 (x - lo).toNat (by omega) o ho p e R s mid args below meth c H locs lsA Z hX' hH hS hl hgl (am_rgs_tl hgs) hct hret)
      rw [exx, Array.getElem?_map, ← Array.getElem?_toList, ho]; rfl
  | lookupswitch t ps =>
    obtain ⟨⟨hd, -⟩, ht, hps, hord⟩ := ok
    obtain ⟨x, r, rfl, h⟩ := am_i1_e h
    have hrx : -2147483648 ≤ x ∧ x ≤ 2147483647 := am_rgs_hd hgs
    obtain ⟨o, g1, g2, g3⟩ := am_lsl_at (pc := pc) rfl ps.toList hps h
    have ho0 : 0 ≤ o := by rcases g3 with q | q <;> omega
    exact lv_lookup (off := o - (pc : Int)) (tgt := o.toNat) hx hb hd hord (by rw [Array.toList_map, am_to hrx]; exact g1) (by omega) (g2 p e R s mid args below meth c H locs lsA Z hX' hH hS hl hgl (am_rgs_tl hgs) hct hret)
  | getfield q =>
    obtain ⟨⟨hd, hnx⟩, hF⟩ := ok
    subst hnx
    obtain ⟨a, r, rfl, hk, h⟩ := am_r1_e h
    obtain ⟨v, h, hrv, hv⟩ := am_getV (ρ := am_r G) hH.2.2.2.2.2 h
    exact am_W_get hX' hH hS hk hF hOK hv hd (h p e R s mid args below meth c H locs lsA Z hX' hH hS hl hgl (am_rgs_cons hrv (am_rgs_tl hgs)) hct hret)
  | putfield q =>
    obtain ⟨⟨hd, hnx⟩, hF⟩ := ok
    subst hnx
    have h : am_put _ _ _ _ _ _ := h
    unfold am_put at h
    split at h
    · rename_i e0
      obtain ⟨a, x, r, rfl, ⟨ha, hk⟩, h⟩ := am_ir_e h
      exact am_W_puti (am_rgs_hd hgs) hX' hH hS ha hk hF hOK (Or.inl e0) hd (fun H1 locs1 hH1 hS1 => h p e R s mid args below meth c H1 locs1 lsA Z hX' hH1 hS1 hl hgl (am_rgs_tl (am_rgs_tl hgs)) hct hret)
    · rename_i e0
      obtain ⟨a, x, r, rfl, ⟨ha, hk⟩, hx01, h⟩ := am_ir_e h
      exact am_W_puti (am_rgs_hd hgs) hX' hH hS ha hk hF hOK (Or.inr ⟨e0, hx01⟩) hd (fun H1 locs1 hH1 hS1 => h p e R s mid args below meth c H1 locs1 lsA Z hX' hH1 hS1 hl hgl (am_rgs_tl (am_rgs_tl hgs)) hct hret)
    · rename_i e0
      obtain ⟨a, x, r, rfl, ⟨ha, hk⟩, h⟩ := am_lr_e h
      exact am_W_putl (am_rgs_hd hgs) hX' hH hS ha hk hF hOK e0 hd (fun H1 locs1 hH1 hS1 => h p e R s mid args below meth c H1 locs1 lsA Z hX' hH1 hS1 hl hgl (am_rgs_tl (am_rgs_tl hgs)) hct hret)
    · rename_i e0
      obtain ⟨a, b, r, rfl, ⟨ha, hk⟩, h⟩ := am_rr_e h
      exact am_W_putr hX' hH hS ha hk hF hOK e0 hd (fun H1 locs1 hH1 hS1 => h p e R s mid args below meth c H1 locs1 lsA Z hX' hH1 hS1 hl hgl (am_rgs_tl (am_rgs_tl hgs)) hct hret)
    · exact h.elim
  | iaload =>
    obtain ⟨⟨hd, hnx⟩, hw⟩ := ok
    subst hnx
    obtain ⟨a, j, r, rfl, len, hk, hj, h⟩ := am_ai_e h
    have hr := hH.2.2.2.2.2.1 a j.toNat
    exact am_W_iald hX' hH hS hk hj (am_rgs_hd hgs) hd (h _ rfl hr.1 hr.2 p e R s mid args below meth c H locs lsA Z hX' hH hS hl hgl (am_rgs_cons (v := .inl (I a j.toNat)) hr (am_rgs_tl (am_rgs_tl hgs))) hct hret)
  | baload =>
    obtain ⟨⟨hd, hnx⟩, hw⟩ := ok
    subst hnx
    obtain ⟨a, j, r, rfl, len, hk, hj, h⟩ := am_ai_e h
    have hr := hH.2.2.2.2.2.1 a j.toNat
    exact am_W_bald hX' hH hS hk hj (am_rgs_hd hgs) hd (h _ rfl hr.1 hr.2 p e R s mid args below meth c H locs lsA Z hX' hH hS hl hgl (am_rgs_cons (v := .inl (I a j.toNat)) hr (am_rgs_tl (am_rgs_tl hgs))) hct hret)
  | laload =>
    obtain ⟨⟨hd, hnx⟩, hw⟩ := ok
    subst hnx
    obtain ⟨a, j, r, rfl, len, ha, hk, hj, h⟩ := am_ai_e h
    have hr := hH.2.2.2.2.2.2 a j.toNat
    exact am_W_lald hX' hH ha hk hj (am_rgs_hd hgs) hd (h _ rfl hr.1 hr.2 p e R s mid args below meth c H locs lsA Z hX' hH hS hl hgl (am_rgs_cons (v := .inr (.inr (some (L a j.toNat)))) hr (am_rgs_tl (am_rgs_tl hgs))) hct hret)
  | arraylength => obtain ⟨⟨hd, hnx⟩, hw⟩ := ok; subst hnx; obtain ⟨a, r, rfl, t, len, hk, ht, hle, h⟩ := am_r1_e h; exact am_W_alen hX' hH hS hk ht hd (h p e R s mid args below meth c H locs lsA Z hX' hH hS hl hgl (am_rgs_cons (v := .inl (len : Int)) (show -2147483648 ≤ (len : Int) ∧ (len : Int) ≤ 2147483647 by omega) (am_rgs_tl hgs)) hct hret)
  | iastore => obtain ⟨⟨hd, hnx⟩, hw⟩ := ok; subst hnx; obtain ⟨a, j, x, r, rfl, len, ha, hk, hj, h⟩ := am_aii_e h; exact am_W_iast hX' hH hS ha hk hj (am_rgs_hd (am_rgs_tl hgs)) (am_rgs_hd hgs) hd (fun H1 locs1 hH1 hS1 => h p e R s mid args below meth c H1 locs1 lsA Z hX' hH1 hS1 hl hgl (am_rgs_tl (am_rgs_tl (am_rgs_tl hgs))) hct hret)
  | bastore => obtain ⟨⟨hd, hnx⟩, hw⟩ := ok; subst hnx; obtain ⟨a, j, x, r, rfl, len, ha, hk, hj, h⟩ := am_aii_e h; exact am_W_bast hX' hH hS ha hk hj (am_rgs_hd (am_rgs_tl hgs)) hd (fun H1 locs1 hH1 hS1 => h p e R s mid args below meth c H1 locs1 lsA Z hX' hH1 hS1 hl hgl (am_rgs_tl (am_rgs_tl (am_rgs_tl hgs))) hct hret)
  | lastore => obtain ⟨⟨hd, hnx⟩, hw⟩ := ok; subst hnx; obtain ⟨a, j, x, r, rfl, len, ha, hk, hj, h⟩ := am_ail_e h; exact am_W_last hX' hH hS ha hk hj (am_rgs_hd (am_rgs_tl hgs)) (am_rgs_hd hgs) hd (fun H1 locs1 hH1 hS1 => h p e R s mid args below meth c H1 locs1 lsA Z hX' hH1 hS1 hl hgl (am_rgs_tl (am_rgs_tl (am_rgs_tl hgs))) hct hret)
  | new ci =>
    obtain ⟨⟨hd, hnx⟩, q, hq, hN, w1, w2, w3⟩ := ok
    subst hnx
    obtain ⟨hg, h⟩ := am_cond_e h
    simp only [Bool.and_eq_true, Nat.ble_eq] at hg
    rw [hN] at hg h
    exact am_W_new hX' hH hS hq (hOK ci q hq) w1 w2 w3 hd (by omega) (by omega) (fun H1 hH1 hS1 => h p e R s mid args below meth c H1 locs lsA Z hX' hH1 hS1 hl hgl (am_rgs_cons (v := .inr (.inl n)) trivial hgs) ⟨hg.1, hg.2⟩ hret)
  | newarray t =>
    obtain ⟨⟨hd, hnx⟩, hw⟩ := ok
    subst hnx
    obtain ⟨x, r, rfl, hx0, hg, h⟩ := am_i1_e h
    simp only [Bool.and_eq_true, Bool.or_eq_true, Nat.ble_eq, Nat.beq_eq] at hg
    exact am_W_newa (am_rgs_hd hgs) hX' hH hS hg.1 hw hd hx0 hg.2.2.2 (by omega) (by omega) (fun H1 hH1 hS1 => h p e R s mid args below meth c H1 locs lsA Z hX' hH1 hS1 hl hgl (am_rgs_cons (v := .inr (.inl n)) trivial (am_rgs_tl hgs)) ⟨hg.2.1, hg.2.2.1⟩ hret)
  | invokestatic r =>
    obtain ⟨⟨hd, hnx⟩, ok⟩ := ok
    subst hnx
    match r, h, ok, hd with
    | 0, h, ok, hd =>
      obtain ⟨hC, hL, hst, hpar⟩ := ok
      exact am_invS h hd hC hL hst hpar hX' hH hS hl hgl hgs hret
    | 1, h, ok, hd =>
      obtain ⟨x, y, r, rfl, hxy, h⟩ := am_i2_e h
      obtain ⟨hg, h⟩ := am_cond_e h
      simp only [Bool.and_eq_true, Nat.ble_eq] at hg
      exact hchk d m pc ix p e R s mid args below meth c H locs lsA Z x y _ ct.1 ct.2 hX' hS hl.1 hg.1 (by rw [am_words_cv]; exact hg.2) hxy (am_rgs_hd (am_rgs_tl hgs)) (am_rgs_hd hgs) (by omega) (by omega) ok hd (h p e R s mid args below meth c H locs lsA Z hX' hH hS hl hgl (am_rgs_tl (am_rgs_tl hgs)) hct hret)
    | 2, h, ok, hd =>
      obtain ⟨w1, w2, w3, w4⟩ := ok
      obtain ⟨x, y, r, rfl, h⟩ := am_i2_e h
      obtain ⟨hg, h⟩ := am_cond_e h
      simp only [Bool.and_eq_true, Nat.ble_eq] at hg
      have hry : -2147483648 ≤ y ∧ y ≤ 2147483647 := am_rgs_hd hgs
      have hrx : -2147483648 ≤ x ∧ x ≤ 2147483647 := am_rgs_hd (am_rgs_tl hgs)
      have hr : -2147483648 ≤ (if x < y then y else x) ∧ (if x < y then y else x) ≤ 2147483647 := by split <;> omega
      have hw8 : ((r.map (am_cv (am_r G))).map fun v => v.category).sum ≤ 8 := by rw [am_words_cv]; exact hg.2
      refine va_mmax hx hb (by rw [hml]; exact hl.1.symm) hown (hts _ w1) (hts _ w2) (hts _ w3) (hts _ w4) (by omega) (by omega) (by omega) (by omega) hd ?_
      have e9 : (if Int32.ofInt x < Int32.ofInt y then Int32.ofInt y else Int32.ofInt x) = Int32.ofInt (if x < y then y else x) := by
        by_cases q : x < y
        · rw [if_pos q, if_pos ((am_ltI hrx hry).mpr q)]
        · rw [if_neg q, if_neg (fun w => q ((am_ltI hrx hry).mp w))]
      rw [e9]
      exact h _ rfl hr.1 hr.2 p e R s mid args below meth c H locs lsA Z hX' hH hS hl hgl (am_rgs_cons (v := .inl (if x < y then y else x)) hr (am_rgs_tl (am_rgs_tl hgs))) hct hret
    | 3, h, ok, hd =>
      obtain ⟨w1, w2, w3, w4⟩ := ok
      obtain ⟨x, y, r, rfl, h⟩ := am_i2_e h
      obtain ⟨hg, h⟩ := am_cond_e h
      simp only [Bool.and_eq_true, Nat.ble_eq] at hg
      have hry : -2147483648 ≤ y ∧ y ≤ 2147483647 := am_rgs_hd hgs
      have hrx : -2147483648 ≤ x ∧ x ≤ 2147483647 := am_rgs_hd (am_rgs_tl hgs)
      have hr : -2147483648 ≤ (if y < x then y else x) ∧ (if y < x then y else x) ≤ 2147483647 := by split <;> omega
      have hw8 : ((r.map (am_cv (am_r G))).map fun v => v.category).sum ≤ 8 := by rw [am_words_cv]; exact hg.2
      refine va_mmin hx hb (by rw [hml]; exact hl.1.symm) hown (hts _ w1) (hts _ w2) (hts _ w3) (hts _ w4) (by omega) (by omega) (by omega) (by omega) hd ?_
      have e9 : (if Int32.ofInt y < Int32.ofInt x then Int32.ofInt y else Int32.ofInt x) = Int32.ofInt (if y < x then y else x) := by
        by_cases q : y < x
        · rw [if_pos q, if_pos ((am_ltI hry hrx).mpr q)]
        · rw [if_neg q, if_neg (fun w => q ((am_ltI hry hrx).mp w))]
      rw [e9]
      exact h _ rfl hr.1 hr.2 p e R s mid args below meth c H locs lsA Z hX' hH hS hl hgl (am_rgs_cons (v := .inl (if y < x then y else x)) hr (am_rgs_tl (am_rgs_tl hgs))) hct hret
    | r + 4, h, ok, hd =>
      obtain ⟨hC, hL, hst, hpar⟩ := ok
      exact am_invS h hd hC hL hst hpar hX' hH hS hl hgl hgs hret
  | invokespecial r =>
    obtain ⟨⟨hd, hnx⟩, ok⟩ := ok
    subst hnx
    cases r with
    | zero =>
      obtain ⟨w1, w2, w3⟩ := ok
      obtain ⟨a, r, rfl, h⟩ := am_r1_e h
      obtain ⟨hg, h⟩ := am_cond_e h
      simp only [Bool.and_eq_true, Nat.ble_eq] at hg
      have hW : 2 * (F0 mid pc lsA (List.map (am_cv (am_r G)) (.inr (.inl a) :: r))).monitorRoom + ((r.map (am_cv (am_r G))).map fun v => v.category).sum ≤ 8 := lv_room (by rw [am_words_cv]; exact hg.2)
      exact W.objInit hx hb hown (hts _ w1) (hts _ w2) (hts _ w3) rfl (by rw [hml]; exact hl.1) rfl hd (by omega) (by omega) (h p e R s mid args below meth c H locs lsA Z hX' hH hS hl hgl (am_rgs_tl hgs) hct hret)
    | succ r =>
      obtain ⟨hC, hL, w1, w2, w3, hpar⟩ := ok
      obtain ⟨a, rr, hb0, h⟩ := am_r1_e h
      exact am_invI h hd hC hL w1 w2 w3 hpar hb0 hX' hH hS hl hgl hgs hret
  | invokevirtual r =>
    obtain ⟨⟨hd, hnx⟩, hC, hL, w1, hpar, w2, w3⟩ := ok
    subst hnx
    obtain ⟨a, rr, hb0, hk, h⟩ := am_r1_e h
    exact am_invV h hd hC hL w1 hpar w2 w3 hb0 hk hX' hH hS hl hgl hgs hret
  | ireturn =>
    obtain ⟨⟨hd, hnx⟩, hw⟩ := ok
    obtain ⟨x, rfl, h⟩ := am_xi_e h
    obtain ⟨h1, h2⟩ := am_ret_e h
    exact hret (some (.inl x)) _ H locs ct pc lsA h2 hgs hH hS hct ⟨hd, h1⟩
  | lreturn =>
    obtain ⟨⟨hd, hnx⟩, hw⟩ := ok
    obtain ⟨x, rfl, h⟩ := am_xl_e h
    obtain ⟨h1, h2⟩ := am_cond_e h
    exact hret (some (.inr (.inr (some x)))) _ H locs ct pc lsA h2 hgs hH hS hct ⟨hd, Nat.eq_of_beq_eq_true h1⟩
  | areturn =>
    obtain ⟨⟨hd, hnx⟩, hw⟩ := ok
    obtain ⟨x, rfl, h⟩ := am_xr_e h
    obtain ⟨h1, h2⟩ := am_cond_e h
    exact hret (some (.inr (.inl x))) _ H locs ct pc lsA h2 hgs hH hS hct ⟨hd, Nat.eq_of_beq_eq_true h1⟩
  | return_ =>
    obtain ⟨⟨hd, hnx⟩, hw⟩ := ok
    obtain ⟨rfl, h⟩ := am_xn_e h
    obtain ⟨h1, h2⟩ := am_cond_e h
    exact hret none _ H locs ct pc lsA h2 hgs hH hS hct ⟨hd, Nat.eq_of_beq_eq_true h1⟩
  | _ => exact h.elim
end AMN
