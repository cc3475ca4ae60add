-- THE ABSTRACT MACHINE: memory as a function of cell number and place; a layout that says what each cell is; the judgement zG over W
def zW : List Cond := lw_tbl.filter goodWord
theorem zW_good : GoodIn zW zW := fun w h => ⟨h, good_of_word (List.mem_filter.mp h).2⟩
theorem zin {w : Cond} (i : Nat) (h : tables_1[i]? = some w) (g : goodWord w = true) : w ∈ zW := List.mem_filter.mpr ⟨List.mem_append_right _ (List.mem_of_getElem? h), g⟩
theorem zinp {w : Cond} (i : Nat) (h : (k2_sels lw_privs)[i]? = some w) (g : goodWord w = true) : w ∈ zW := List.mem_filter.mpr ⟨List.mem_append_left _ (List.mem_of_getElem? h), g⟩
theorem zW_tbl {args : Array Value} {s : State} (h : ∀ w ∈ lw_tbl, w.before args s = true) : ∀ w ∈ zW, w.before args s = true := fun w hw => h w (List.mem_filter.mp hw).1
abbrev zMem : Type := Nat → Nat → Int32
abbrev zLE : Type := Nat ⊕ (Nat × List (Option (Option Nat)))
abbrev zLay : Type := List zLE
abbrev zLs : Type := List (Option Value)
def zUp (σ : zMem) (a k : Nat) (v : Int32) : zMem := fun x => if x = a then upd (σ a) k v else σ x
def zcv (b : Nat) (ext : Nat → Nat) (a : Nat) : Nat := if a < 1000 then b + a else ext (a - 1000)
def zV (cv : Nat → Nat) (v : Value) : Value := match v with
  | .ref a => .ref (cv a)
  | w => w
def zFV (cv : Nat → Nat) (x : Int32) (t : Option (Option Nat)) : Value := match t with
  | none => .int x
  | some none => .null
  | some (some j) => .ref (cv j)
def zFs (cv : Nat → Nat) (f : Nat → Int32) : Nat → List (Option (Option Nat)) → List Value
  | _, [] => []
  | k, t :: r => zFV cv (f k) t :: zFs cv f (k + 1) r
def zCell (cv : Nat → Nat) (cA : ClassId) (f : Nat → Int32) (e : zLE) : va_E := match e with
  | .inl n => .inl (cA, n, .inl f)
  | .inr o => .inr (o.1, zFs cv f 0 o.2)
def zWs (cv : Nat → Nat) (cA : ClassId) (σ : zMem) : Nat → zLay → va_W
  | _, [] => []
  | a, e :: r => (cv a, zCell cv cA (σ a) e) :: zWs cv cA σ (a + 1) r
theorem zFs_get (cv : Nat → Nat) (f : Nat → Int32) : ∀ (fs : List (Option (Option Nat))) (j k : Nat) (t : Option (Option Nat)), fs[k]? = some t → (zFs cv f j fs)[k]? = some (zFV cv (f (j + k)) t)
  | [], j, k, t, h => by simp at h
  | u :: r, j, 0, t, h => by
    simp only [List.getElem?_cons_zero, Option.some.injEq] at h
    subst h
    simp [zFs]
  | u :: r, j, k + 1, t, h => by
    simp only [List.getElem?_cons_succ] at h
    have h2 := zFs_get cv f r (j + 1) k t h
    simp only [zFs, List.getElem?_cons_succ, h2]
    rw [show j + 1 + k = j + (k + 1) by omega]
theorem zFs_len (cv : Nat → Nat) (f : Nat → Int32) : ∀ (fs : List (Option (Option Nat))) (j : Nat), (zFs cv f j fs).length = fs.length
  | [], j => rfl
  | u :: r, j => by simp [zFs, zFs_len cv f r (j + 1)]
theorem zFs_out (cv : Nat → Nat) (f : Nat → Int32) (v : Int32) (i : Nat) : ∀ (fs : List (Option (Option Nat))) (j : Nat), i < j → zFs cv (upd f i v) j fs = zFs cv f j fs
  | [], j, h => rfl
  | u :: r, j, h => by
    simp only [zFs, zFs_out cv f v i r (j + 1) (by omega)]
    rw [show upd f i v j = f j by simp [upd]; omega]
theorem zFs_setI (cv : Nat → Nat) (f : Nat → Int32) (v : Int32) : ∀ (fs : List (Option (Option Nat))) (j k : Nat), fs[k]? = some none → (zFs cv f j fs).set k (.int v) = zFs cv (upd f (j + k) v) j fs
  | [], j, k, h => by simp at h
  | u :: r, j, 0, h => by
    simp only [List.getElem?_cons_zero, Option.some.injEq] at h
    subst h
    simp only [zFs, List.set_cons_zero, Nat.add_zero]
    rw [zFs_out cv f v j r (j + 1) (by omega)]
    simp [zFV, upd]
  | u :: r, j, k + 1, h => by
    simp only [List.getElem?_cons_succ] at h
    have h2 := zFs_setI cv f v r (j + 1) k h
    simp only [zFs, List.set_cons_succ, h2]
    rw [show j + 1 + k = j + (k + 1) by omega]
    rw [show upd f (j + (k + 1)) v j = f j by simp [upd]]
theorem zFs_setR (cv : Nat → Nat) (f : Nat → Int32) (q : Nat) : ∀ (fs : List (Option (Option Nat))) (j k : Nat), k < fs.length → (zFs cv f j fs).set k (.ref (cv q)) = zFs cv f j (fs.set k (some (some q)))
  | [], j, k, h => by simp at h
  | u :: r, j, 0, h => by simp [zFs, zFV]
  | u :: r, j, k + 1, h => by
    simp only [zFs, List.set_cons_succ, zFs_setR cv f q r (j + 1) k (by simpa using h)]
theorem zWs_get (cv : Nat → Nat) (cA : ClassId) (σ : zMem) : ∀ (Λ : zLay) (j a : Nat) (e : zLE), Λ[a]? = some e → (zWs cv cA σ j Λ)[a]? = some (cv (j + a), zCell cv cA (σ (j + a)) e)
  | [], j, a, e, h => by simp at h
  | u :: r, j, 0, e, h => by
    simp only [List.getElem?_cons_zero, Option.some.injEq] at h
    subst h
    simp [zWs]
  | u :: r, j, a + 1, e, h => by
    simp only [List.getElem?_cons_succ] at h
    have h2 := zWs_get cv cA σ r (j + 1) a e h
    simp only [zWs, List.getElem?_cons_succ, h2]
    rw [show j + 1 + a = j + (a + 1) by omega]
theorem zWs_at {cv : Nat → Nat} {cA : ClassId} {σ : zMem} {Λ : zLay} {a : Nat} {e : zLE} (h : Λ[a]? = some e) : (zWs cv cA σ 0 Λ)[a]? = some (cv a, zCell cv cA (σ a) e) := by
  have := zWs_get cv cA σ Λ 0 a e h
  rwa [Nat.zero_add] at this
theorem zWs_inv (cv : Nat → Nat) (cA : ClassId) (σ : zMem) : ∀ (Λ : zLay) (j a : Nat) (q : Nat × va_E), (zWs cv cA σ j Λ)[a]? = some q → a < Λ.length ∧ q.1 = cv (j + a)
  | [], j, a, q, h => by simp [zWs] at h
  | u :: r, j, 0, q, h => by
    simp only [zWs, List.getElem?_cons_zero, Option.some.injEq] at h
    subst h
    simp
  | u :: r, j, a + 1, q, h => by
    simp only [zWs, List.getElem?_cons_succ] at h
    have h2 := zWs_inv cv cA σ r (j + 1) a q h
    refine ⟨by simp; omega, ?_⟩
    rw [h2.2, show j + 1 + a = j + (a + 1) by omega]
theorem zWs_congr (cv : Nat → Nat) (cA : ClassId) (σ τ : zMem) : ∀ (Λ : zLay) (j : Nat), (∀ a, j ≤ a → a < j + Λ.length → σ a = τ a) → zWs cv cA σ j Λ = zWs cv cA τ j Λ
  | [], j, h => rfl
  | u :: r, j, h => by
    simp only [zWs]
    rw [h j (Nat.le_refl _) (by simp), zWs_congr cv cA σ τ r (j + 1) (fun a h1 h2 => h a (by omega) (by simp; omega))]
theorem zWs_set (cv : Nat → Nat) (cA : ClassId) (σ τ : zMem) (e' : zLE) : ∀ (Λ : zLay) (j a : Nat), a < Λ.length → (∀ x, x ≠ j + a → τ x = σ x) → (zWs cv cA σ j Λ).set a (cv (j + a), zCell cv cA (τ (j + a)) e') = zWs cv cA τ j (Λ.set a e')
  | [], j, a, h, hd => by simp at h
  | u :: r, j, 0, h, hd => by
    simp only [zWs, List.set_cons_zero, Nat.add_zero]
    rw [zWs_congr cv cA σ τ r (j + 1) (fun a h1 h2 => (hd a (by omega)).symm)]
  | u :: r, j, a + 1, h, hd => by
    have h2 := zWs_set cv cA σ τ e' r (j + 1) a (by simpa using h) (fun x hx => hd x (by omega))
    simp only [zWs, List.set_cons_succ]
    rw [show j + 1 + a = j + (a + 1) by omega] at h2
    rw [h2, hd j (by omega)]
theorem zWs_set0 {cv : Nat → Nat} {cA : ClassId} {σ τ : zMem} {e' : zLE} {Λ : zLay} {a : Nat} (h : a < Λ.length) (hd : ∀ x, x ≠ a → τ x = σ x) : (zWs cv cA σ 0 Λ).set a (cv a, zCell cv cA (τ a) e') = zWs cv cA τ 0 (Λ.set a e') := by
  have := zWs_set cv cA σ τ e' Λ 0 a h (fun x hx => hd x (by omega))
  rwa [Nat.zero_add] at this
theorem zWs_app (cv : Nat → Nat) (cA : ClassId) (σ : zMem) (e : zLE) : ∀ (Λ : zLay) (j : Nat), zWs cv cA σ j (Λ ++ [e]) = zWs cv cA σ j Λ ++ [(cv (j + Λ.length), zCell cv cA (σ (j + Λ.length)) e)]
  | [], j => by simp [zWs]
  | u :: r, j => by
    simp only [List.cons_append, zWs, zWs_app cv cA σ e r (j + 1)]
    rw [show j + 1 + r.length = j + (u :: r).length by simp; omega]
theorem zWs_len (cv : Nat → Nat) (cA : ClassId) (σ : zMem) : ∀ (Λ : zLay) (j : Nat), (zWs cv cA σ j Λ).length = Λ.length
  | [], j => rfl
  | u :: r, j => by simp [zWs, zWs_len cv cA σ r (j + 1)]
theorem zset_same {α : Type} : ∀ (l : List α) (a : Nat) (e : α), l[a]? = some e → l.set a e = l
  | [], a, e, h => rfl
  | u :: r, 0, e, h => by
    simp only [List.getElem?_cons_zero, Option.some.injEq] at h
    rw [h]; rfl
  | u :: r, a + 1, e, h => by
    simp only [List.getElem?_cons_succ] at h
    rw [List.set_cons_succ, zset_same r a e h]
theorem zUp_self (σ : zMem) (a k : Nat) (v : Int32) : zUp σ a k v a = upd (σ a) k v := by simp [zUp]
theorem zUp_ne {σ : zMem} {a k x : Nat} {v : Int32} (h : x ≠ a) : zUp σ a k v x = σ x := by simp [zUp, h]
theorem zcv_lt {b : Nat} {ext : Nat → Nat} {a : Nat} (h : a < 1000) : zcv b ext a = b + a := by simp [zcv, h]
-- what is outside: the String constants, statics, the nest's links
def zBy (s : String) : List Int32 := s.toList.map (fun c => (Int32.ofNat c.toNat))
abbrev zStr : List (String × Nat × String) := [("CoalIsLent", 23, "grows 1 + coal < 99 ; cools 2 ; burns 10 ;"), ("CoalIsLent$Reader", 112, "grows"), ("CoalIsLent$Reader", 118, "cools"), ("CoalIsLent$Reader", 120, "burns"), ("CoalIsLent$Reader", 122, "or"), ("CoalIsLent$Reader", 124, "and"), ("CoalIsLent$Reader", 126, "not"), ("CoalIsLent$Reader", 128, "heat"), ("CoalIsLent$Reader", 130, "wood"), ("CoalIsLent$Reader", 132, "night"), ("CoalIsLent$Reader", 134, "coal"), ("CoalIsLent$Reader", 136, "owed"), ("CoalIsLent$Reader", 138, "more")]
def zLen : List Nat := [42, 5, 5, 5, 2, 3, 3, 4, 4, 5, 4, 4, 4]
def zByt : List (List Int32) := [[103, 114, 111, 119, 115, 32, 49, 32, 43, 32, 99, 111, 97, 108, 32, 60, 32, 57, 57, 32, 59, 32, 99, 111, 111, 108, 115, 32, 50, 32, 59, 32, 98, 117, 114, 110, 115, 32, 49, 48, 32, 59], [103, 114, 111, 119, 115], [99, 111, 111, 108, 115], [98, 117, 114, 110, 115], [111, 114], [97, 110, 100], [110, 111, 116], [104, 101, 97, 116], [119, 111, 111, 100], [110, 105, 103, 104, 116], [99, 111, 97, 108], [111, 119, 101, 100], [109, 111, 114, 101]]
def zAb : List Int32 := [-1, 0, 0, 1, 2, 0]
abbrev zNest : List (String × Nat × MethodName × String) := [("CoalIsLent", 9, ⟨"CoalIsLent$Texts", "<init>", "()V"⟩, "CoalIsLent"), ("CoalIsLent", 18, ⟨"CoalIsLent$Reader", "<init>", "()V"⟩, "CoalIsLent"), ("CoalIsLent$Reader", 149, ⟨"CoalIsLent", "isFromTo", "(III)Z"⟩, "CoalIsLent"), ("CoalIsLent", 66, ⟨"CoalIsLent$Sheets", "<init>", "()V"⟩, "CoalIsLent"), ("CoalIsLent$World", 67, ⟨"CoalIsLent", "isFromTo", "(III)Z"⟩, "CoalIsLent"), ("CoalIsLent$World", 76, ⟨"CoalIsLent", "has", "(II)Z"⟩, "CoalIsLent")]
abbrev zA (b : Nat) : Nat → Prop := fun q => b ≤ q
def zExt (b : Nat) (ext : Nat → Nat) (U : State) (H : Heap) : Prop :=
  vk_S 13 zLen zByt (fun i => ext i) (fun i => ext (20 + i)) (zA b) U H ∧ (∀ (i : Nat) (q : String × Nat × String), zStr[i]? = some q → vk_R q.1 q.2.1 q.2.2 (ext i) U) ∧
  va_Z "java/lang/String" "COMPACT_STRINGS" "Z" (.int 1) (zA b) U H ∧
  (va_Z "jdk/internal/util/Preconditions" "SIOOBE_FORMATTER" "Ljava/util/function/BiFunction;" .null (zA b) U H ∨ va_Z "jdk/internal/util/Preconditions" "SIOOBE_FORMATTER" "Ljava/util/function/BiFunction;" (.ref (ext 40)) (zA b) U H) ∧
  (va_Z "CoalIsLent$Kinds" "ABOVE" "[I" (.ref (ext 41)) (zA b) U H ∧ va_T .int (ext 41) 6 (fun j => .int (zAb.getD j 0)) (zA b) U H) ∧
  (∀ (i : Nat) (q : String × Nat × MethodName × String), zNest[i]? = some q → va_Nw (.methodLinkNest q.1 q.2.1 q.2.2.1 q.2.2.2) U)
def zKst (D : va_G) (cA : ClassId) (b : Nat) (ext : Nat → Nat) (U : State) (H : Heap) : Prop := va_K D vwCl [(cA, .int)] U ∧ zExt b ext U H
theorem zKst.go {D : va_G} {cA : ClassId} {b : Nat} {ext : Nat → Nat} {s U : State} {H0 H : Heap} {locs : List Loc} (h : zKst D cA b ext s H0) (hS : va_S (zA b) H0 H locs) (hW : s.WarmedH U.vm) : zKst D cA b ext U H := by
  obtain ⟨hK, h1, h2, h3, h4, ⟨h5, h6⟩, h7⟩ := h
  have hk : ∀ a : Nat, a < H0.size → ¬ zA b a → H[a]? = H0[a]? := hS.2.1
  refine ⟨va_K.moved hW.alike hK, (h1.kept hk).moved hW.alike, fun i q hq => (h2 i q hq).warm hW, (h3.kept hk).moved hW.alike, ?_, ⟨(h5.kept hk).moved hW.alike, (h6.kept hk).moved hW.alike⟩, fun i q hq => va_Nw.warmM hW (h7 i q hq)⟩
  rcases h4 with h4 | h4
  · exact Or.inl ((h4.kept hk).moved hW.alike)
  · exact Or.inr ((h4.kept hk).moved hW.alike)
def zPic (D : va_G) (cA : ClassId) (b : Nat) (ext : Nat → Nat) (Λ : zLay) (σ : zMem) (H : Heap) : Prop := va_P D vwCl (zWs (zcv b ext) cA σ 0 Λ) H ∧ H.size = b + Λ.length ∧ Λ.length ≤ 1000
theorem zPic.D {D : va_G} {cA : ClassId} {b : Nat} {ext : Nat → Nat} {Λ : zLay} {σ : zMem} {H : Heap} (h : zPic D cA b ext Λ σ H) : va_D (zA b) (zWs (zcv b ext) cA σ 0 Λ) := by
  have hx : ∀ (i : Nat) (p : Nat × va_E), (zWs (zcv b ext) cA σ 0 Λ)[i]? = some p → p.1 = b + i := by
    intro i p hp
    have h1 := zWs_inv _ _ _ Λ 0 i p hp
    rw [h1.2, Nat.zero_add, zcv_lt (Nat.lt_of_lt_of_le h1.1 h.2.2)]
  refine ⟨fun i j p q hp hq e => ?_, fun k q hq => ?_⟩
  · have h1 := hx i p hp
    have h2 := hx j q hq
    omega
  · show b ≤ q.1
    have h1 := hx k q hq
    omega
def zroom (d mc ms : Nat) : Room := { frames := d, cells := mc, slots := ms, locals := 64 * d }
def zPre (D : va_G) (cA : ClassId) (b : Nat) (ext : Nat → Nat) (Λ : zLay) (σ : zMem) (U : State) : Prop := zPic D cA b ext Λ σ U.heap ∧ zKst D cA b ext U U.heap
def zPost (D : va_G) (cA : ClassId) (b : Nat) (ext : Nat → Nat) (R : Option Value) (Λ : zLay) (S : zMem) : Array Value → State → Outcome → State → Prop := fun _ st o t => o = .returned (R.map (zV (zcv b ext))) ∧ zPic D cA b ext Λ S t.heap ∧ va_F (zA b) st t
def zMet (l : Launch) (y : MethodName) (c : Cond) (d mc ms : Nat) (args : List Value) (Λ : zLay) (σ : zMem) (R : Option Value) (Λ' : zLay) (S : zMem) : Prop :=
  ∀ (D : va_G) (cA : ClassId) (b : Nat) (ext : Nat → Nat), Met l y (c :: zW) (zroom d mc ms) (va_Pc (args.map (zV (zcv b ext))) (zPre D cA b ext Λ σ)) (zPost D cA b ext R Λ' S) mc ms (zA b)
def zHas (cv : Nat → Nat) (ls : Array Slot) (nL : Nat) (L : zLs) : Prop := ls.size = nL ∧ lv_wf ls ∧ ∀ (i : Nat) (v : Value), L[i]? = some (some v) → ls[i]? = some (.val (zV cv v))
abbrev zGT : Type := Nat → zLs → List Value → zLay → zMem → Nat → Nat → Prop
def zG (p : Program) (l : Launch) (e : Env) (R : Room) (s : State) (m : MethodId) (args : Array Value) (below : List Frame) (meth : Method) (c : Code) (D : va_G) (cA : ClassId) (b : Nat) (ext : Nat → Nat) (nL : Nat) (Q : State → Prop) : zGT := fun pc L st Λ σ k n =>
  ∀ (H : Heap) (locs : List Loc) (ls : Array Slot), zPic D cA b ext Λ σ H → va_S (zA b) s.heap H locs → zHas (zcv b ext) ls nL L → W p l e R s m args below meth c H locs k n Q (F0 m pc ls (st.map (zV (zcv b ext))))
def zOk (G : zGT) (l : Launch) (cc : ByteArray) (own : String) (nL d C N : Nat) (ini : Bool) : Prop :=
  ∃ (p : Program) (e : Env) (R : Room) (s : State) (m : MethodId) (args : Array Value) (below : List Frame) (meth : Method) (c : Code) (D : va_G) (cA : ClassId) (b : Nat) (ext : Nat → Nat) (Q : State → Prop),
    G = zG p l e R s m args below meth c D cA b ext nL Q ∧ p.tables.exec = Jvm.exec ∧ c.code = cc ∧ c.maxLocals = nL ∧ s.vm.findClass own = some m.cls ∧ (∀ w ∈ zW, w.before args s = true) ∧ zKst D cA b ext s s.heap ∧ d ≤ R.frames ∧ 64 * d ≤ R.locals ∧ C ≤ R.cells ∧ N ≤ R.slots ∧ (ini = true → meth.name = "<init>") ∧ b ≤ s.heap.size
-- how a method's frame is left
def zR (G : zGT) (cc : ByteArray) (ret : Option FieldType) (T : Option Value × zMem) (Λ : zLay) (mc ms : Nat) : Prop :=
  (∀ (pc : Nat) (L : zLs) (x : Int32) (ty : FieldType), decode cc pc = .ok (.ireturn, 1) → ret = some ty → narrow ty (.int x) = .int x → T.1 = some (.int x) → G pc L [.int x] Λ T.2 mc ms) ∧
  (∀ (pc : Nat) (L : zLs) (x : Int64), decode cc pc = .ok (.lreturn, 1) → ret = some .long → T.1 = some (.long x) → G pc L [.long x] Λ T.2 mc ms) ∧
  (∀ (pc : Nat) (L : zLs), decode cc pc = .ok (.return_, 1) → ret = none → T.1 = none → G pc L [] Λ T.2 mc ms) ∧
  (∀ (pc : Nat) (L : zLs) (q : Nat) (n : String), decode cc pc = .ok (.areturn, 1) → ret = some (.object n) → T.1 = some (.ref q) → G pc L [.ref q] Λ T.2 mc ms)
theorem zHas_entry {cv : Nat → Nat} {n : Nat} (vs : List Value) (L : zLs) (h : (lg_sl (vs.map (zV cv))).length ≤ n) (hL : ∀ (i : Nat) (v : Value), L[i]? = some (some v) → (i, zV cv v) ∈ lv_args 0 (vs.map (zV cv))) : zHas cv ((lg_sl (vs.map (zV cv)) ++ List.replicate (n - (lg_sl (vs.map (zV cv))).length) Slot.unset).toArray) n L := by
  have h1 := lv_entry (vs.map (zV cv)) h
  exact ⟨h1.1, h1.2.1, fun i v hv => h1.2.2 (i, zV cv v) (hL i v hv)⟩
def zArgs : List Value → zLs
  | [] => []
  | v :: r => if v.category = 2 then some v :: none :: zArgs r else some v :: zArgs r
theorem zV_cat (cv : Nat → Nat) (v : Value) : (zV cv v).category = v.category := by cases v <;> rfl
theorem zArgs_in (cv : Nat → Nat) : ∀ (vs : List Value) (j i : Nat) (v : Value), (zArgs vs)[i]? = some (some v) → (j + i, zV cv v) ∈ lv_args j (vs.map (zV cv))
  | [], j, i, v, h => by simp [zArgs] at h
  | u :: r, j, i, v, h => by
    simp only [List.map_cons, lv_args, zV_cat]
    by_cases hu : u.category = 2
    · simp only [zArgs, hu, if_true] at h ⊢
      match i, h with
      | 0, h =>
        simp only [List.getElem?_cons_zero, Option.some.injEq] at h
        subst h
        exact List.mem_cons_self
      | 1, h => simp at h
      | i + 2, h =>
        simp only [List.getElem?_cons_succ] at h
        have := zArgs_in cv r (j + 2) i v h
        rw [show j + 2 + i = j + (i + 2) by omega] at this
        exact List.mem_cons_of_mem _ this
    · simp only [zArgs, hu, if_false] at h ⊢
      match i, h with
      | 0, h =>
        simp only [List.getElem?_cons_zero, Option.some.injEq] at h
        subst h
        exact List.mem_cons_self
      | i + 1, h =>
        simp only [List.getElem?_cons_succ] at h
        have := zArgs_in cv r (j + 1) i v h
        rw [show j + 1 + i = j + (i + 1) by omega] at this
        exact List.mem_cons_of_mem _ this
theorem zsl_len (cv : Nat → Nat) : ∀ vs : List Value, (lg_sl (vs.map (zV cv))).length = (zArgs vs).length
  | [] => rfl
  | u :: r => by
    have ih := zsl_len cv r
    simp only [lg_sl, List.map_cons, List.flatMap_cons, List.length_append, zV_cat] at ih ⊢
    rw [ih]
    by_cases hu : u.category = 2
    · simp [zArgs, hu]; omega
    · simp [zArgs, hu]; omega
theorem zM_of {l : Launch} {y : MethodName} {cc : ByteArray} {nL : Nat} {ret : Option FieldType} {d mc ms : Nat} {own : String} {ini : Bool} {args : List Value} {Λ Λ' : zLay} {σ : zMem} {T : Option Value × zMem}
    (hy : plainName y.cls = true) (hown : y.cls = own) (hi : ini = true → y.name = "<init>") (hl : (zArgs args).length ≤ nL) (L : zLs) (hL : zArgs args ++ List.replicate (nL - (zArgs args).length) none = L)
    (h : ∀ G : zGT, zOk G l cc own nL d mc ms ini → zR G cc ret T Λ' mc ms → G 0 L [] Λ σ 0 0) : zMet l y (.code y cc nL ret) d mc ms args Λ σ T.1 Λ' T.2 := by
  intro D cA b ext
  refine Met.ofW (cc := cc) (maxL := nL) (ret := ret) hy rfl ?_
  intro p e s m as below meth c s₁ B hml hv
  obtain ⟨rfl, hP, hK⟩ := hv
  have hx := B.exec
  have hb := B.bytes
  have hr := B.returns
  have hts := atoms_spec (ws := (Cond.code y cc nL ret) :: zW) B.pre
  have hownc : s.vm.findClass own = some m.cls := by rw [← hown]; exact findClass_of_methodNamed B.named
  have hlocks := B.notSynchronized
  have hin : ini = true → meth.name = "<init>" := fun q => by rw [(name_of_methodNamed B.named B.method).1]; exact hi q
  have hb0 : b ≤ s.heap.size := by rw [hP.2.1]; omega
  have hg := h (zG p l e (headSpec ((Cond.code y cc nL ret) :: zW) (zroom d mc ms)).room s m (args.map (zV (zcv b ext))).toArray below meth c D cA b ext nL (MQ below (zPost D cA b ext T.1 Λ' T.2) (args.map (zV (zcv b ext))).toArray s mc ms (zA b)))
    ⟨p, e, _, s, m, _, below, meth, c, D, cA, b, ext, _, rfl, hx, hb, hml, hownc, fun w hw => hts w (List.mem_cons_of_mem _ hw), hK, Nat.le_refl _, Nat.le_refl _, Nat.le_refl _, Nat.le_refl _, hin, hb0⟩ ?_
  · rw [lg_entry_eq]
    refine hg s.heap [] _ hP va_S.rf ?_
    have hz : (lg_sl (args.map (zV (zcv b ext)))).length ≤ nL := by rw [zsl_len]; exact hl
    refine zHas_entry args L hz (fun i v hv => ?_)
    have h2 : (zArgs args)[i]? = some (some v) := by
      rw [← hL] at hv
      by_cases hi2 : i < (zArgs args).length
      · rwa [List.getElem?_append_left hi2] at hv
      · rw [List.getElem?_append_right (by omega), List.getElem?_replicate] at hv
        split at hv <;> simp at hv
    have := zArgs_in (zcv b ext) args 0 i v h2
    rwa [Nat.zero_add] at this
  · refine ⟨?_, ?_, ?_, ?_⟩
    · intro pc L x ty hd hret hn hT H locs ls hP2 hS hl2
      exact W.zret (v := x) hx hb (by rw [hr, hret]) hn (fun t ht hW => ⟨by rw [hT]; rfl, by rw [ht]; exact hP2, hS.F ht⟩) hS.2.2 hd
    · intro pc L x hd hret hT H locs ls hP2 hS hl2
      exact W.lret (v := x) hx hb (by rw [hr, hret]) (fun t ht hW => ⟨by rw [hT]; rfl, by rw [ht]; exact hP2, hS.F ht⟩) hS.2.2 hd
    · intro pc L hd hret hT H locs ls hP2 hS hl2
      exact W.vret hx hb (by rw [hr, hret]) (fun t ht hW => ⟨by rw [hT]; rfl, by rw [ht]; exact hP2, hS.F ht⟩) hS.2.2 hd
    · intro pc L q nm hd hret hT H locs ls hP2 hS hl2
      exact W.aret (v := .ref (zcv b ext q)) hx hb (by rw [hr, hret]) (Or.inl ⟨nm, rfl⟩) (Or.inr ⟨_, rfl⟩) (fun t ht hW => ⟨by rw [hT]; rfl, by rw [ht]; exact hP2, hS.F ht⟩) hS.2.2 hd
