/-! ALL CALLS -/
theorem am_done : am_goal := by
  intro L xs hL hx
  refine am_made (fun n K I J R hB hK0 hI0 h4 h5 h6 h7 h13 h101 h2 h14 => ?_)
  have hIv : am_Iv Rs L xs (n, K, I, J, R) := by
    refine ⟨⟨hB, hK0, hI0⟩, ⟨?_, ?_, ?_, fun j hj => ?_⟩, h7.trans h2.symm, 41, 71, h4, h5, Or.inl ⟨rfl, rfl⟩, Or.inl ⟨h6, h14⟩⟩
    · show 0 ≤ I 13 1; omega
    · show I 13 1 ≤ 1200; omega
    · show I 101 1 = I 13 1; omega
    · have hj : (j : Int) < I 13 1 := hj
      omega
  exact law_loop (Inv := am_Iv Rs L xs) hL (fun σ h => h.1) hx (fun a b c d e ha hb hc hd he => ok_feed Rs_hRs a b c d e ha hb hc hd he) (fun a ha => ok_end Rs_hRs a ha) ok_text ok_place (fun a ha => ok_told a ha) (fun a ha => ok_run a ha) ok_looks (fun a ha => ok_looked a ha) ok_misses (fun a ha => ok_example a ha) (fun a ha => ok_never a ha) (L + 6) 0 (n, K, I, J, R) (by omega) (by omega) hIv
/-- the claim's start -/
theorem whole_start {p : Program} {e : Env} {s : State} {m : MethodId} {below : List Frame} {meth : Method} {c : Code} (l : Launch) {b L : Nat} {xs : Nat → Int32} (hL : L ≤ 3072) (C0 : lw_At p s m meth c b L xs) : W p l e room_1 s m #[Value.ref b] below meth c s.heap [] 0 0 (lw_Z below #[Value.ref b] s) (entryFrame m ([Value.ref b] : List Value).toArray 4) := am_whole am_done l hL C0
