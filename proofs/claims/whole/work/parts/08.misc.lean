-- tables of the class, texts, members of the library
theorem old_kept {w : WP} {s : State} (h : ∀ q : Nat, q < wb w → s.heap[q]? = w.1[q]?) : ∀ a : Nat, a < w.1.size → ¬ aw w a → s.heap[a]? = w.1[a]? := fun a ha _ => h a ha
def stg (i : Nat) (j : Int) : Int := (stv i).getD j.toNat 0
theorem stv_r : ∀ i, i < 3 → ∀ z ∈ stv i, -100 ≤ z ∧ z ≤ 1000000 := by decide +kernel
theorem stg_r {i : Nat} (hi : i < 3) (j : Int) : r32 (stg i j) := by
  unfold stg
  rw [List.getD_eq_getElem?_getD]
  cases h : (stv i)[j.toNat]? with
  | none => show r32 0; unfold r32; omega
  | some z =>
    have := stv_r i hi z (List.mem_of_getElem? h)
    show r32 z
    unfold r32
    omega
def sbz : List (List Int) := [[119, 111, 114, 100], [110, 101, 97, 114], [114, 101, 97, 100, 101, 114], [119, 97, 110, 116, 115], [114, 101, 97, 100], [115, 101, 116], [115, 116, 101, 116], [106, 111, 105, 110], [112, 97, 114, 116], [112, 114, 105, 110, 116], [119, 97, 115]]
def schr (i j : Nat) : Int := (sbz.getD i []).getD j 0
theorem sb_ok : ∀ i, i < 11 → ∀ j, j < slen.getD i 0 → (sbyt.getD i []).getD j 0 = I32 (schr i j) ∧ 0 ≤ schr i j ∧ schr i j < 128 := by decide +kernel
theorem chr_and : ∀ z : Fin 128, iand (z.val : Int) 255 = (z.val : Int) ∧ ((I32 (z.val : Int)).toUInt32 % 65536).toInt32 = I32 (z.val : Int) ∧ narrow .char (.int (I32 (z.val : Int))) = .int (I32 (z.val : Int)) := by decide +kernel
theorem chr_fin {z : Int} (h0 : 0 ≤ z) (h1 : z < 128) : iand z 255 = z ∧ ((I32 z).toUInt32 % 65536).toInt32 = I32 z ∧ narrow .char (.int (I32 z)) = .int (I32 z) := by
  have h := chr_and ⟨z.toNat, by omega⟩
  have e : (((⟨z.toNat, by omega⟩ : Fin 128).val : Nat) : Int) = z := by show ((z.toNat : Nat) : Int) = z; omega
  rw [e] at h
  exact h
section MISC
variable {α : Type} {l : Launch} {M : MC} {K : α → Option AV × Nat × Hp} {X X1 X2 : Option α} {pc n : Nat} {L S : List AV} {C : Hp} {q : Nat × Nat}
theorem j_stat {idx i : Nat} (hd : decode M.cc pc = .ok (.getstatic idx, 3)) (hi : i < 3) (hl : Cond.fieldLink M.y.cls idx "ProofLine" (stn i) "[I" ∈ lw_gt ∨ ∃ host : String, Cond.fieldLinkNest M.y.cls idx "ProofLine" (stn i) "[I" host ∈ lw_ns) (k : J l M K X (pc + 3) L ((3, ((20 + i : Nat) : Int)) :: S) n C q) : J l M K X pc L S n C q := by
  intro r hr w p e R s m args below meth c H locs ls Qf cx ro rt wr vs lr rs hsz
  have hZ := (cx.2.2.2.2.2.1.2.1 i hi).1.kept (old_kept cx.2.2.2.2.2.2.2.1)
  have h := k r hr w p e R s m args below meth c H locs ls Qf cx ro rt wr vs lr (RgL.cons rg3 rs) hsz
  rcases hl with hl | ⟨host, hl⟩
  · exact va_gets cx.1 cx.2.1 hZ vs cx.2.2.2.1 (cx.2.2.2.2.1 _ hl) (fun _ h9 => h9) hd h
  · exact va_getsN cx.1 cx.2.1 hZ vs cx.2.2.2.1 (va_Nw.use rfl (cx.2.2.2.2.2.1.2.2.2.2.2.2 _ hl)) (fun _ h9 => h9) hd h
theorem j_statld {i : Nat} {j : Int} (hd : decode M.cc pc = .ok (.iaload, 1)) (hi : i < 3) (h0 : 0 ≤ j) (h1 : j < ((stv i).length : Int)) (k : J l M K X (pc + 1) L ((0, stg i j) :: S) n C q) : J l M K X pc L ((0, j) :: (3, ((20 + i : Nat) : Int)) :: S) n C q := by
  intro r hr w p e R s m args below meth c H locs ls Qf cx ro rt wr vs lr rs hsz
  have hT := (cx.2.2.2.2.2.1.2.1 i hi).2.kept (old_kept cx.2.2.2.2.2.2.2.1)
  have rj : r32 j := rs.hd.1 rfl
  refine va_ti cx.1 cx.2.1 hT vs (in_I h0 h1 rj) (v := conc w (0, stg i j)) ?_ hd (k r hr w p e R s m args below meth c H locs ls Qf cx ro rt wr vs lr (RgL.cons (rg0 (stg_r hi j)) rs.tl.tl) hsz)
  rw [clamp_I h0 rj]
  rfl
theorem j_max {a b : Int} {idx : Nat} (hd : decode M.cc pc = .ok (.invokestatic idx, 3)) (hl : Cond.methodLink M.y.cls idx Lib.Math.max.name ∈ lw_gt) (hst : Cond.static Lib.Math.max.name ∈ lw_gt) (hin : Cond.initialized "java/lang/Math" ∈ lw_gt) (hco : Cond.code Lib.Math.max.name Lib.Math.max.code 2 (some .int) ∈ lw_gt) (hd1 : 1 ≤ M.d) (hS8 : wt S ≤ 8) (h1 : q.1 ≤ M.mc) (h2 : q.2 ≤ M.ms) (k : J l M K X (pc + 3) L ((0, max a b) :: S) n C q) : J l M K X pc L ((0, b) :: (0, a) :: S) n C q := by
  intro r hr w p e R s m args below meth c H locs ls Qf cx ro rt wr vs lr rs hsz
  have ra : r32 a := rs.tl.hd.1 rfl
  have rb : r32 b := rs.hd.1 rfl
  have g1 := ro.1
  have g2 := ro.2.1
  have h := k r hr w p e R s m args below meth c H locs ls Qf cx ro rt wr vs lr (RgL.cons (rg0 (by unfold r32 at *; omega)) rs.tl.tl) hsz
  have e1 : conc w (0, max a b) = .int _ := congrArg Value.int (imax_I ra rb)
  rw [List.map_cons, e1] at h
  exact va_mmax cx.1 cx.2.1 (cx.2.2.1.trans lr.1.symm) cx.2.2.2.1 (cx.2.2.2.2.1 _ hl) (cx.2.2.2.2.1 _ hst) (cx.2.2.2.2.1 _ hin) (cx.2.2.2.2.1 _ hco) (by omega) (by rw [wt_conc]; omega) (Nat.le_trans h1 ro.2.2.1) (Nat.le_trans h2 ro.2.2.2) hd h
theorem j_min {a b : Int} {idx : Nat} (hd : decode M.cc pc = .ok (.invokestatic idx, 3)) (hl : Cond.methodLink M.y.cls idx Lib.Math.min.name ∈ lw_gt) (hst : Cond.static Lib.Math.min.name ∈ lw_gt) (hin : Cond.initialized "java/lang/Math" ∈ lw_gt) (hco : Cond.code Lib.Math.min.name Lib.Math.min.code 2 (some .int) ∈ lw_gt) (hd1 : 1 ≤ M.d) (hS8 : wt S ≤ 8) (h1 : q.1 ≤ M.mc) (h2 : q.2 ≤ M.ms) (k : J l M K X (pc + 3) L ((0, min a b) :: S) n C q) : J l M K X pc L ((0, b) :: (0, a) :: S) n C q := by
  intro r hr w p e R s m args below meth c H locs ls Qf cx ro rt wr vs lr rs hsz
  have ra : r32 a := rs.tl.hd.1 rfl
  have rb : r32 b := rs.hd.1 rfl
  have g1 := ro.1
  have g2 := ro.2.1
  have h := k r hr w p e R s m args below meth c H locs ls Qf cx ro rt wr vs lr (RgL.cons (rg0 (by unfold r32 at *; omega)) rs.tl.tl) hsz
  have e1 : conc w (0, min a b) = .int _ := congrArg Value.int (imin_I ra rb)
  rw [List.map_cons, e1] at h
  exact va_mmin cx.1 cx.2.1 (cx.2.2.1.trans lr.1.symm) cx.2.2.2.1 (cx.2.2.2.2.1 _ hl) (cx.2.2.2.2.1 _ hst) (cx.2.2.2.2.1 _ hin) (cx.2.2.2.2.1 _ hco) (by omega) (by rw [wt_conc]; omega) (Nat.le_trans h1 ro.2.2.1) (Nat.le_trans h2 ro.2.2.2) hd h
def CpyOK (M : MC) (idx : Nat) : Prop := Cond.methodLink M.y.cls idx arraycopyName ∈ lw_gt ∧ Cond.native arraycopyName ∈ lw_gt ∧ Cond.static arraycopyName ∈ lw_gt ∧ Cond.initialized "java/lang/System" ∈ lw_gt
def cpyG {α : Type} (i j k n0 n1 : Int) (X : Option α) : Option α := if 0 ≤ i ∧ 0 ≤ j ∧ 0 ≤ k ∧ i + k ≤ n0 ∧ j + k ≤ n1 then X else none
theorem cpy2_ne {C : Hp} {a i b j k o : Int} (h : o ≠ b) : cpy2 C a i b j k o = C o := by
  funext x
  simp [cpy2, h]
theorem RgH.cpy {C : Hp} (h : RgH C) {a i b j k : Int} (hb : (sh a.toNat).1 = (sh b.toNat).1) : RgH (cpy2 C a i b j k) := by
  intro x y
  unfold cpy2
  split
  · next e => exact ⟨(h _ _).1, fun e2 => (h _ _).2 (by rw [hb]; rw [e.1] at e2; exact e2)⟩
  · exact h x y
theorem fits_I {ty : FieldType} {t : Nat} {z : Int} (ht : t < 2) (hty : ty = if t = 0 then .int else .byte) (hz : t = 1 → -128 ≤ z ∧ z ≤ 127) : fits ty (.int (I32 z)) = true := by
  subst hty
  by_cases h : t = 0
  · rw [if_pos h]; rfl
  · rw [if_neg h]
    have hz' := hz (by omega)
    show (decide (-128 ≤ I32 z) && decide (I32 z ≤ 127)) = true
    rw [Bool.and_eq_true, decide_eq_true_eq, decide_eq_true_eq]
    exact ⟨(I32_le (a := -128) (by unfold r32; omega) (by unfold r32; omega)).mpr hz'.1, (I32_le (b := 127) (by unfold r32; omega) (by unfold r32; omega)).mpr hz'.2⟩
theorem j_copy {t N0 N1 idx : Nat} {a b i j k : Int} (hd : decode M.cc pc = .ok (.invokestatic idx, 3)) (ho : CpyOK M idx) (ht : t < 2) (ha : OB n a (20 + t) N0) (hb : OB n b (20 + t) N1) (hd1 : 1 ≤ M.d) (hS8 : wt S ≤ 8) (kk : 0 ≤ k → J l M K X (pc + 3) L S n (cpy2 C a i b j k) q) : J l M K (cpyG i j k (N0 : Int) (N1 : Int) X) pc L ((0, k) :: (0, j) :: (2, b) :: (0, i) :: (2, a) :: S) n C q := by
  intro r hr w p e R s m args below meth c H locs ls Qf cx ro rt wr vs lr rs hsz
  unfold cpyG at hr
  by_cases hg : 0 ≤ i ∧ 0 ≤ j ∧ 0 ≤ k ∧ i + k ≤ (N0 : Int) ∧ j + k ≤ (N1 : Int)
  · rw [if_pos hg] at hr
    obtain ⟨g1, g2, g3, g4, g5⟩ := hg
    obtain ⟨a', rfl, han, hash⟩ := ha.nat
    obtain ⟨b', rfl, hbn, hbsh⟩ := hb.nat
    have rk : r32 k := rs.hd.1 rfl
    have rj : r32 j := rs.tl.hd.1 rfl
    have ri : r32 i := rs.tl.tl.tl.hd.1 rfl
    have r0 : r32 0 := by unfold r32; omega
    have q1 := ro.1
    have q2 := ro.2.1
    have he0 : (wsOf w n C)[a']? = some (wb w + a', .inl (w.2.2.1 t, N0, .inl (fun x => I32 (C (a' : Int) (x : Int))))) := by rw [wsOf_get han, cell_i (t := t) hash (by omega)]
    have he1 : (wsOf w n C)[b']? = some (wb w + b', .inl (w.2.2.1 t, N1, .inl (fun x => I32 (C (b' : Int) (x : Int))))) := by rw [wsOf_get hbn, cell_i (t := t) hbsh (by omega)]
    have hty : (tysOf w)[t]? = some (w.2.2.1 t, if t = 0 then .int else .byte) := by
      match t, ht with
      | 0, _ => rfl
      | 1, _ => rfl
    have neg : ∀ {z : Int}, r32 z → 0 ≤ z → ¬ I32 z < 0 := by
      intro z hz h0 h
      have := (I32_lt hz r0).mp h
      omega
    have hset : (wsOf w n C).set b' (wb w + b', .inl (w.2.2.1 t, N1, .inl (va_cpy (fun x : Nat => I32 (C (a' : Int) (x : Int))) (fun x : Nat => I32 (C (b' : Int) (x : Int))) (I32 i).toNatClampNeg (I32 j).toNatClampNeg (I32 k).toNatClampNeg))) = wsOf w n (cpy2 C (a' : Int) i (b' : Int) j k) := by
      refine wsOf_set hbn ?_ (fun o ho => cpy2_ne ho)
      rw [cell_i (t := t) hbsh (by omega), clamp_I g1 ri, clamp_I g2 rj, clamp_I g3 rk]
      congr 4
      funext x
      unfold cpy2 va_cpy
      by_cases hx : j.toNat ≤ x ∧ x < j.toNat + k.toNat
      · rw [if_pos hx, if_pos ⟨rfl, by omega, by omega⟩]
        congr 2
        omega
      · rw [if_neg hx, if_neg (by omega)]
    rw [List.map_cons, List.map_cons, List.map_cons, List.map_cons, List.map_cons, conc_ref (z := (a' : Int)) (by omega), conc_ref (z := (b' : Int)) (by omega), Int.toNat_natCast, Int.toNat_natCast]
    refine va_copyi (sp := I32 i) (dp := I32 j) (n := I32 k) cx.1 cx.2.1 (cx.2.2.1.trans lr.1.symm) cx.2.2.2.1 (cx.2.2.2.2.1 _ ho.1) (cx.2.2.2.2.1 _ ho.2.1) (cx.2.2.2.2.1 _ ho.2.2.1) (cx.2.2.2.2.1 _ ho.2.2.2) cx.2.2.2.2.2.1.1 wr.1 (wsOf_D w n C) vs a' b' t t he0 he1 hty hty (by split <;> rfl) (neg ri g1) (neg rj g2) (neg rk g3) (by rw [clamp_I g1 ri, clamp_I g3 rk]; omega) (by rw [clamp_I g2 rj, clamp_I g3 rk]; omega) (fun x _ => fits_I ht rfl (fun e1 => (wr.2.2.2 _ _).2 (by rw [Int.toNat_natCast, hash, e1]))) (by omega) ?_ hd fun H1 locs1 hP1 _ hS1 => ?_
    · rw [wt_conc]
      have : nativeFrameWords "java/lang/System" "arraycopy" 5 ≤ 60 := by decide +kernel
      omega
    · rw [hset] at hP1
      refine W.withT fun hle => ?_
      exact kk g3 r hr w p e R s m args below meth c H1 locs1 ls Qf cx ro rt (WRel.mk' hP1 (by omega) hle hsz hS1 cx.2.2.2.2.2.2.2.1 cx.2.2.2.2.2.2.1 (wr.2.2.2.cpy (by rw [Int.toNat_natCast, Int.toNat_natCast, hash, hbsh]))) hS1 lr rs.tl.tl.tl.tl.tl hsz
  · rw [if_neg hg] at hr
    cases hr
end MISC
