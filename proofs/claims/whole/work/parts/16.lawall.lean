theorem law_all {p : Program} {e : Env} {s : State} {m : MethodId} {below : List Frame} {meth : Method} {c : Code} (l : Launch) {b Lx : Nat} {xs : Nat → Int32} {Inv : Hp → Hp → Prop} (hL : Lx ≤ 3072) (A0 : lw_At p s m meth c b Lx xs) (h0 : Op0 Inv) (h1 : Op1 Inv) (h2 : Op2 Inv) (h3 : Op3 Inv) (h4 : Op4 Inv) (h5 : Op5 Inv) (h6 : Op6 Inv) (h7 : Op7 Inv) (h8 : Op8 Inv) (h9 : Op9 Inv) (h10 : Op10 Inv) (h11 : Op11 Inv) (h12 : Op12 Inv) (h13 : Op13 Inv) (h14 : Op14 Inv) (h15 : Op15 Inv) (h16 : Op16 Inv) (h17 : Op17 Inv) (h18 : Op18 Inv) (h19 : Op19 Inv) (h20 : Op20 Inv) (h21 : Op21 Inv) (h22 : Op22 Inv) (h23 : Op23 Inv) (h24 : Op24 Inv) (h25 : Op25 Inv) (h26 : Op26 Inv) (h27 : Op27 Inv) (h28 : Op28 Inv) (h29 : Op29 Inv) (h30 : Op30 Inv) (h31 : Op31 Inv) (h32 : Op32 Inv) (hG : Inv G00 G00) : W p l e room_1 s m #[Value.ref b] below meth c s.heap [] 0 0 (lw_Z below #[Value.ref b] s) (entryFrame m ([Value.ref b] : List Value).toArray 4) := by
  obtain ⟨hx, hb, hr, hml, hown, hts, hX, hbl, hlocks, hgv⟩ := id A0
  obtain ⟨w, hw1, hw2, hk⟩ := world_start (b := b) hts hgv
  have hwb : wb w = s.heap.size := by
    unfold wb
    rw [hw1]
  obtain ⟨r, hr0⟩ := law_loop (l := l) (nm := meth.name) (xs := xs) hL h0 h1 h2 h3 h4 h5 h6 h7 h8 h9 h10 h11 h12 h13 h14 h15 h16 h17 h18 h19 h20 h21 h22 h23 h24 h25 h26 h27 h28 h29 h30 h31 h32 (Lx + 1) 0 (by omega) G00 G00 hG
  have hJ := law_begin hr0
  rw [lg_entry_eq]
  have hl := lv_entry ([.ref b]) (n := 4) (Nat.le_of_ble_eq_true rfl)
  generalize (lg_sl ([.ref b]) ++ List.replicate (4 - (lg_sl ([.ref b])).length) Slot.unset).toArray = ls at hl ⊢
  refine hJ r rfl w p e room_1 s m _ below meth c s.heap [] ls _ ⟨hx, hb, hml, hown, fun x hx => hts x (List.mem_filter.mp hx).1, hk, Nat.le_of_eq hwb, fun q _ => by rw [hw1], rfl⟩ ⟨by rw [hw2, hw1]; exact hX, by rw [hw2, hwb]; exact hbl⟩ ⟨Nat.le_of_ble_eq_true rfl, Nat.le_of_ble_eq_true rfl, Nat.le_of_ble_eq_true rfl, Nat.le_of_ble_eq_true rfl⟩ ?_ ⟨fun k q h => ?_, by rw [hwb] <;> rfl, fun q _ => by rw [hw1], ?_⟩ va_S.rf ?_ (fun v h => by cases h) (by rw [hwb] <;> rfl)
  · intro H locs cells slots pc ls2 ig wr vs h1 h2 hrg hk2 hd
    have e1 : conc w (0, 1) = .int 1 := congrArg Value.int (by decide)
    rcases hk2 with ⟨e2, e3, e4⟩ | ⟨ty, z, e2, e3, e4, e5⟩ | ⟨z, e2, e3, e4⟩ | ⟨nm, z, e2, e3, e4⟩
    · cases e3
    · subst e4
      show W p l e room_1 s m #[Value.ref b] below meth c H locs cells slots (lw_Z below #[Value.ref b] s) (F0 m pc ls2 [conc w (0, 1)])
      rw [e1]
      refine va_forget (fun q hq => ?_) (W.widen (Nat.le_trans h1 (Nat.le_of_ble_eq_true rfl)) (Nat.le_trans h2 (Nat.le_of_ble_eq_true rfl)) (lw_ret hx hb hr hlocks hd))
      have := vs.2.2 q hq
      rw [← hwb]
      exact this
    · cases e2
    · cases e2
  · simp [wsOf] at h
  · intro o j
    exact ⟨by show r32 0; unfold r32; omega, fun _ => by show (-128 : Int) ≤ 0 ∧ (0 : Int) ≤ 127; omega⟩
  · refine ⟨hl.1, hl.2.1, fun i v hi h9 => ?_, ?_⟩
    · match i, hi with
      | 0, hi =>
        cases hi
        have h0 := hl.2.2 (0, .ref b) (by simp [lv_args])
        show ls[0]? = some (.val (.ref (w.2.2.2 30)))
        rw [hw2]
        exact h0
      | 1, hi => cases hi; exact absurd rfl h9
      | 2, hi => cases hi; exact absurd rfl h9
      | 3, hi => cases hi; exact absurd rfl h9
      | i + 4, hi => cases hi
    · intro v hv
      simp only [List.mem_cons, List.not_mem_nil, or_false] at hv
      rcases hv with rfl | rfl | rfl | rfl
      · exact rg3
      · exact rg9
      · exact rg9
      · exact rg9
