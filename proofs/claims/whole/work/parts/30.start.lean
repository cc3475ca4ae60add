def R_law : String := "CoalIsLentLaw"
def lw_P (b : Addr) (xs : List Int32) (args : Array Value) (s : State) : Prop := args = #[.ref b] ∧ s.IntsAt b xs ∧ xs.length ≤ 3584 ∧ (Jvm.Cond.and given_1 narrow_1).before args s = true
def lw_Q (_ : Array Value) (s : State) (o : Outcome) (t : State) : Prop := o = .returned (some (.int 1)) ∧ Framed s o t [] 600000 7302250
def lw_Z (below : List Frame) (a : Array Value) (s : State) : State → Prop := fun t => ∃ o, t.status = .running ∧ Ended t below o ∧ lw_Q a s o t
/-- the law's own end, with 1 on the stack, nothing written that was there before, its room as the claim has it -/
theorem lw_ret {p : Program} {l : Launch} {e : Env} {s : State} {m : MethodId} {below : List Frame} {meth : Method} {c : Code} {b : Nat} (hx : p.tables.exec = Jvm.exec) (hb : c.code = code) (hr : meth.sig.returnType = ret) (hlocks : meth.locks = false) {pc : Nat} {H : Heap} {ls : Array Slot} (hdg : decode code pc = .ok (.ireturn, 1)) : W p l e room_1 s m #[Value.ref b] below meth c H [] 600000 7302250 (lw_Z below #[Value.ref b] s) (F0 m pc ls [.int 1]) := by
  intro T hT X
  obtain ⟨fs, hret, hrun, hended, hW, hframe⟩ := X.leave (v := some (.int 1)) (hlocks := hlocks) (fun h => by rw [hr] at h; cases h)
  have hmeth' : T.vm.method? m = some meth := X.method'
  refine ⟨T.setFrames fs, ?_, .returned (some (.int 1)), hrun, hended, rfl, ⟨_, rfl⟩, hW, hframe⟩
  jvm_step X.here [X.here.top, hx, hb, hdg, hmeth', hr, ret, narrow_b1]
  (try refine ⟨rfl, ?_⟩); (try refine ⟨rfl, ?_⟩)
  first | (intro acts; rw [hret _ acts rfl rfl rfl]) | rw [hret _ _ rfl rfl rfl]
  exact Steps.refl _
/-- what holds at the law's entry: the machine, the code, the tables' words (any of lw_tbl by 'hts w (by decide +kernel)'), the script of L ints xs at the cell b, what the Statement gives of the start (any of its parts by flat_of_before) -/
def lw_At (p : Program) (s : State) (m : MethodId) (meth : Method) (c : Code) (b L : Nat) (xs : Nat → Int32) : Prop :=
  p.tables.exec = Jvm.exec ∧ c.code = code ∧ meth.sig.returnType = ret ∧ c.maxLocals = 4 ∧ s.vm.findClass R_law = some m.cls ∧ (∀ w ∈ lw_tbl, w.before #[Value.ref b] s = true) ∧ va_X b L xs s s.heap ∧ b < s.heap.size ∧ meth.locks = false ∧ (Jvm.Cond.and given_1 narrow_1).before #[Value.ref b] s = true
def zFlat : List Cond := flatC (Jvm.Cond.and given_1 narrow_1)
def zTm (i : Nat) : Term := .string (zStr.getD i ("", 0, "")).1 (zStr.getD i ("", 0, "")).2.1
theorem zst1 : ∀ i, i < 13 → zLen.getD i 0 < 2 ^ 31 := by decide +kernel
theorem zst2 : ∀ i, i < 13 → Cond.exactly (zTm i) "java/lang/String" ∈ zFlat := by decide +kernel
theorem zst3 : ∀ i, i < 13 → Cond.eq (.field (zTm i) "java/lang/String" "coder" "B") (.int 0) ∈ zFlat := by decide +kernel
theorem zst4 : ∀ i, i < 13 → Cond.arrayOf (.field (zTm i) "java/lang/String" "value" "[B") .byte ∈ zFlat := by decide +kernel
theorem zst5 : ∀ i, i < 13 → Cond.eq (.length (.field (zTm i) "java/lang/String" "value" "[B")) (.int (Int32.ofNat (zLen.getD i 0))) ∈ zFlat := by decide +kernel
theorem zst6 : ∀ i, i < 13 → ∀ j, j < zLen.getD i 0 → Cond.eq (.elem (.field (zTm i) "java/lang/String" "value" "[B") (.int (Int32.ofNat j))) (.int ((zByt.getD i []).getD j 0)) ∈ zFlat := by decide +kernel
theorem zst7 : ∀ i, i < 13 → ∀ j, j < 13 → i ≠ j → Cond.not (Cond.eq (zTm i) (zTm j)) ∈ zFlat ∨ Cond.not (Cond.eq (zTm j) (zTm i)) ∈ zFlat := by decide +kernel
theorem zst8 : ∀ i, i < 13 → Cond.stringRef (zStr.getD i ("", 0, "")).1 (zStr.getD i ("", 0, "")).2.1 (zStr.getD i ("", 0, "")).2.2 ∈ lw_tbl := by decide +kernel
theorem zab1 : ∀ j, j < 6 → Cond.eq (.elem (.static "CoalIsLent$Kinds" "ABOVE" "[I") (.int (Int32.ofNat j))) (.int (zAb.getD j 0)) ∈ zFlat := by decide +kernel
theorem zab2 : Cond.arrayOf (.static "CoalIsLent$Kinds" "ABOVE" "[I") .int ∈ zFlat := by decide +kernel
theorem zab3 : Cond.eq (.length (.static "CoalIsLent$Kinds" "ABOVE" "[I")) (.int (Int32.ofNat 6)) ∈ zFlat := by decide +kernel
theorem zcs1 : Cond.eq (.static "java/lang/String" "COMPACT_STRINGS" "Z") (.int 1) ∈ zFlat := by decide +kernel
theorem zfm1 : Cond.isRef (.static "jdk/internal/util/Preconditions" "SIOOBE_FORMATTER" "Ljava/util/function/BiFunction;") ∈ zFlat := by decide +kernel
theorem zls1 : Cond.laysStatic "java/lang/String" "COMPACT_STRINGS" "Z" ∈ lw_tbl := by decide +kernel
theorem zls2 : Cond.laysStatic "jdk/internal/util/Preconditions" "SIOOBE_FORMATTER" "Ljava/util/function/BiFunction;" ∈ lw_tbl := by decide +kernel
theorem zls3 : Cond.laysStatic "CoalIsLent$Kinds" "ABOVE" "[I" ∈ lw_tbl := by decide +kernel
theorem zin1' : Cond.initialized "java/lang/String" ∈ lw_tbl := by decide +kernel
theorem zin2' : Cond.initialized "jdk/internal/util/Preconditions" ∈ lw_tbl := by decide +kernel
theorem zin3' : Cond.initialized "CoalIsLent$Kinds" ∈ lw_tbl := by decide +kernel
theorem znst1 : ∀ i, i < 6 → Cond.methodLinkNest (zNest.getD i ("", 0, ⟨"", "", ""⟩, "")).1 (zNest.getD i ("", 0, ⟨"", "", ""⟩, "")).2.1 (zNest.getD i ("", 0, ⟨"", "", ""⟩, "")).2.2.1 (zNest.getD i ("", 0, ⟨"", "", ""⟩, "")).2.2.2 ∈ lw_tbl := by decide +kernel
theorem zarrW : Cond.arrayClass .int ∈ lw_tbl := by decide +kernel
theorem zget {α : Type} {l : List α} {i : Nat} {q d : α} (h : l[i]? = some q) : i < l.length ∧ l.getD i d = q := ⟨(List.getElem?_eq_some_iff.mp h).1, by rw [List.getD_eq_getElem?_getD, h]; rfl⟩
/-- what is outside stands at the law's entry -/
theorem zExt_of {s : State} {b : Nat} (hts : ∀ w ∈ lw_tbl, w.before #[Value.ref b] s = true) (hgv : (Jvm.Cond.and given_1 narrow_1).before #[Value.ref b] s = true) :
    ∃ ext : Nat → Nat, ext 50 = b ∧ zExt s.heap.size ext s s.heap := by
  have hf : ∀ c ∈ zFlat, c.before #[Value.ref b] s = true := flat_of_before _ hgv
  have hA : ∀ a : Nat, a < s.heap.size → ¬ zA s.heap.size a := fun a h q => absurd h (Nat.not_lt.mpr q)
  obtain ⟨adK, adV, hS, hev⟩ := vk_Sof (args := #[Value.ref b]) (s := s) (N := 13) (tm := zTm) (len := zLen) (byt := zByt) (A := zA s.heap.size) zst1 (fun i hi => hf _ (zst2 i hi)) (fun i hi => hf _ (zst3 i hi)) (fun i hi => hf _ (zst4 i hi)) (fun i hi => hf _ (zst5 i hi)) (fun i hi j hj => hf _ (zst6 i hi j hj)) (fun i j hi hj hne => (zst7 i hi j hj hne).elim (fun q => Or.inl (hf _ q)) (fun q => Or.inr (hf _ q))) hA
  obtain ⟨ab, hab, hT⟩ := va_Tof (args := #[Value.ref b]) (s := s) (tm := .static "CoalIsLent$Kinds" "ABOVE" "[I") (ty := .int) (N := 6) (f := fun j => .int (zAb.getD j 0)) (A := zA s.heap.size) (by decide) (hf _ zab2) (va_eqt (hf _ zab3)) (fun j hj => va_eqt (hf _ (zab1 j hj))) hA
  have hfm := va_Zqof (A := zA s.heap.size) (hts _ zls2) (hts _ zin2') (hf _ zfm1) hA
  obtain ⟨fm, hfm⟩ : ∃ fm : Nat, va_Z "jdk/internal/util/Preconditions" "SIOOBE_FORMATTER" "Ljava/util/function/BiFunction;" .null (zA s.heap.size) s s.heap ∨ va_Z "jdk/internal/util/Preconditions" "SIOOBE_FORMATTER" "Ljava/util/function/BiFunction;" (.ref fm) (zA s.heap.size) s s.heap := by
    rcases hfm with h | ⟨t, h⟩
    · exact ⟨0, Or.inl h⟩
    · exact ⟨t, Or.inr h⟩
  have e1 : ∀ i, i < 13 → (fun a : Nat => if a < 13 then adK a else if a < 40 then adV (a - 20) else if a = 40 then fm else if a = 41 then ab else b) i = adK i := fun i hi => by simp [hi]
  have e2 : ∀ i, i < 13 → (fun a : Nat => if a < 13 then adK a else if a < 40 then adV (a - 20) else if a = 40 then fm else if a = 41 then ab else b) (20 + i) = adV i := fun i hi => by
    show (if 20 + i < 13 then _ else if 20 + i < 40 then adV (20 + i - 20) else _) = _
    rw [if_neg (by omega), if_pos (by omega), Nat.add_sub_cancel_left]
  refine ⟨fun a => if a < 13 then adK a else if a < 40 then adV (a - 20) else if a = 40 then fm else if a = 41 then ab else b, rfl, ⟨fun i hi => ?_, fun i j hi hj h => ?_⟩, fun i q hq => ?_, va_Zof (hts _ zls1) (hts _ zin1') (va_eqt (hf _ zcs1)) hA, hfm, ⟨va_Zref (hts _ zls3) (hts _ zin3') hab hA, hT⟩, fun i q hq => ?_⟩
  · have h1 := hS.1 i hi
    rw [e1 i hi, e2 i hi]
    exact h1
  · rw [e1 i hi, e1 j hj] at h
    exact hS.2 i j hi hj h
  · obtain ⟨hi, hq2⟩ := zget (d := ("", 0, "")) hq
    rw [e1 i hi]
    have h1 := hts _ (zst8 i hi)
    have h2 := hev i hi
    simp only [zTm] at h2
    rw [hq2] at h1 h2
    exact vk_R.of h1 h2
  · obtain ⟨hi, hq2⟩ := zget (d := ("", 0, ⟨"", "", ""⟩, "")) hq
    have h1 := hts _ (znst1 i hi)
    rw [hq2] at h1
    exact va_Nw.of rfl h1
theorem zKst_of {s : State} {b : Nat} {ext : Nat → Nat} (hts : ∀ w ∈ lw_tbl, w.before #[Value.ref b] s = true) (he : zExt s.heap.size ext s s.heap) : ∃ (D : va_G) (cA : ClassId), zKst D cA s.heap.size ext s s.heap := by
  have ht := zW_tbl hts

  obtain ⟨c0, i0, h0⟩ := u_known (C := RX2) (T := TX2) (N := 10) (n := 10) ht zinw_X2 (ht _ zins_X2)
  obtain ⟨c1, i1, h1⟩ := u_known (C := RX3) (T := TX3) (N := 3) (n := 3) ht zinw_X3 (ht _ zins_X3)
  obtain ⟨c2, i2, h2⟩ := u_known (C := RX4) (T := TX4) (N := 4) (n := 4) ht zinw_X4 (ht _ zins_X4)
  obtain ⟨c3, i3, h3⟩ := u_known (C := RX5) (T := TX5) (N := 15) (n := 15) ht zinw_X5 (ht _ zins_X5)
  obtain ⟨c4, i4, h4⟩ := u_known (C := RX6) (T := TX6) (N := 8) (n := 8) ht zinw_X6 (ht _ zins_X6)
  obtain ⟨c5, i5, h5⟩ := u_known (C := RX7) (T := TX7) (N := 37) (n := 37) ht zinw_X7 (ht _ zins_X7)
  obtain ⟨cA, kA, comp, a1, a2, a3⟩ := Cond.arrayClass_spec (hts _ zarrW)
  refine ⟨(fun k => if k = 0 then c0 else if k = 1 then c1 else if k = 2 then c2 else if k = 3 then c3 else if k = 4 then c4 else c5, fun k => if k = 0 then i0 else if k = 1 then i1 else if k = 2 then i2 else if k = 3 then i3 else if k = 4 then i4 else i5), cA, ⟨?_, ?_⟩, he⟩
  · intro k q hq
    match k, hq with
    | 0, hq => cases hq; exact h0
    | 1, hq => cases hq; exact h1
    | 2, hq => cases hq; exact h2
    | 3, hq => cases hq; exact h3
    | 4, hq => cases hq; exact h4
    | 5, hq => cases hq; exact h5
    | k + 6, hq => simp [vwCl] at hq
  · intro k q hq
    match k, hq with
    | 0, hq => cases hq; exact ⟨fun n z => ⟨fun k h => (by cases h), kA, a2, comp, a3⟩, a1⟩
    | k + 1, hq => simp at hq
theorem zScr {p : Program} {l : Launch} {e : Env} {R : Room} {s : State} {m : MethodId} {args : Array Value} {below : List Frame} {meth : Method} {c : Code} {D : va_G} {cA : ClassId} {ext : Nat → Nat} {nL : Nat} {Q : State → Prop} {cc : ByteArray} {b L9 : Nat} {xs : Nat → Int32} (hx : p.tables.exec = Jvm.exec) (hb : c.code = cc) (hX : va_X b L9 xs s s.heap) (hbl : b < s.heap.size) (he : ext 50 = b) : zSc (zG p l e R s m args below meth c D cA s.heap.size ext nL Q) cc xs L9 := by
  have e9 : zcv s.heap.size ext 1050 = b := by
    rw [← he]
    exact zcv_ext (i := 50)
  refine ⟨fun pc L st Λ σ k n hd kk H locs ls hP hS hl => ?_, fun pc L st Λ σ k n i hin hd kk H locs ls hP hS hl => ?_⟩
  · show W _ _ _ _ _ _ _ _ _ _ _ _ _ _ _ (F0 m pc ls (.ref (zcv s.heap.size ext 1050) :: _))
    rw [e9]
    exact va_slen hx hb hX hbl (Nat.not_le.mpr hbl) hS hd (kk H locs ls hP hS hl)
  · show W _ _ _ _ _ _ _ _ _ _ _ _ _ _ _ (F0 m pc ls (.int i :: .ref (zcv s.heap.size ext 1050) :: _))
    rw [e9]
    exact va_sld hx hb hX hbl (Nat.not_le.mpr hbl) hS hin hd (kk H locs ls hP hS hl)
set_option maxHeartbeats 4000000 in
theorem whole_start0 (hlaw : ∀ (xs : Nat → Int32) (L : Nat), L ≤ 3584 → ∀ s0 : zMem, ∃ S, f_law xs L s0 = some (1, S)) {p : Program} {e : Env} {s : State} {m : MethodId} {below : List Frame} {meth : Method} {c : Code} (l : Launch) {b L : Nat} {xs : Nat → Int32} (hL : L ≤ 3584) (C0 : lw_At p s m meth c b L xs) : W p l e room_1 s m #[Value.ref b] below meth c s.heap [] 0 0 (lw_Z below #[Value.ref b] s) (entryFrame m ([Value.ref b] : List Value).toArray 4) := by
  obtain ⟨hx, hb, hr, hml, hown, hts, hX, hbl, hlocks, hgv⟩ := id C0
  obtain ⟨ext, he, hExt⟩ := zExt_of hts hgv
  obtain ⟨D, cA, hK⟩ := zKst_of hts hExt
  obtain ⟨S, hS0⟩ := hlaw xs L hL (fun _ _ => 0)
  have hok : zOk (zG p l e room_1 s m #[Value.ref b] below meth c D cA s.heap.size ext 4 (lw_Z below #[Value.ref b] s)) l cL_law RL 4 75 600000 7302250 false :=
    ⟨p, e, _, s, m, _, below, meth, c, D, cA, s.heap.size, ext, _, rfl, hx, hb, hml, hown, zW_tbl hts, hK, Nat.le_of_ble_eq_true rfl, Nat.le_of_ble_eq_true rfl, Nat.le_refl _, Nat.le_refl _, fun q => (by cases q), Nat.le_refl _⟩
  have hsc := zScr (p := p) (l := l) (e := e) (R := room_1) (m := m) (args := #[Value.ref b]) (below := below) (meth := meth) (D := D) (cA := cA) (nL := 4) (Q := lw_Z below #[Value.ref b] s) hx hb hX hbl he
  have hR : zR (zG p l e room_1 s m #[Value.ref b] below meth c D cA s.heap.size ext 4 (lw_Z below #[Value.ref b] s)) cL_law (some .boolean) (some (.int 1), S) zFull 70 4264 := by
    refine ⟨?_, ?_, ?_, ?_⟩
    · intro pc L9 x ty hd _ _ hT H locs ls hP hS hl
      cases hT
      refine va_forget (fun q hq => hS.2.2 q hq) ?_
      refine W.widen (k := 600000) (n := 7302250) (Nat.le_of_ble_eq_true rfl) (Nat.le_of_ble_eq_true rfl) ?_
      exact lw_ret hx hb hr hlocks hd
    · intro pc L9 x hd q; cases q
    · intro pc L9 hd q; cases q
    · intro pc L9 q n hd q; cases q
  have hE := c_law hok hR hsc (fun _ _ => 0) 1 S hS0 rfl rfl
  rw [lg_entry_eq]
  refine hE s.heap [] _ ⟨fun k q h => by simp [zWs] at h, rfl, by decide⟩ va_S.rf ?_
  have h1 := lv_entry ([.ref b]) (n := 4) (Nat.le_of_ble_eq_true rfl)
  refine ⟨h1.1, h1.2.1, fun i v hv => ?_⟩
  match i, hv with
  | 0, hv =>
    cases hv
    have h2 := h1.2.2 (0, .ref b) List.mem_cons_self
    have e9 : zcv s.heap.size ext 1050 = b := by
      rw [← he]
      exact zcv_ext (i := 50)
    show _ = some (Slot.val (Value.ref (zcv s.heap.size ext 1050)))
    rw [e9]
    exact h2
  | 1, hv => simp at hv
  | 2, hv => simp at hv
  | 3, hv => simp at hv
  | k + 4, hv => simp at hv
