def zE {α : Type} (G : zGT) (T : Option Value × zMem) (enc : α → Option Value) (Λ : zLay) (k n : Nat) (pc : Nat) (L : zLs) (st : List Value) (σ : zMem) (e : Option (α × zMem)) : Prop := ∀ r S, e = some (r, S) → enc r = T.1 → S = T.2 → G pc L st Λ σ k n
def nm {α β : Sort _} (v : α) (e : α → β) : β := e v
def gd {α : Type} (c : Bool) (e : Option α) : Option α := if c = true then e else none
def bd {α β : Type} (m : Option (α × zMem)) (f : α → zMem → Option β) : Option β := match m with
  | none => none
  | some q => f q.1 q.2
abbrev zix (i : Int32) : Nat := i.toNatClampNeg
def zib (i : Int32) (n : Nat) : Bool := decide (0 ≤ i) && decide (zix i < n)
theorem zib_in {i : Int32} {n : Nat} (h : zib i n = true) : vp_in i n := by
  simp only [zib, Bool.and_eq_true, decide_eq_true_eq] at h
  rintro (q | q)
  · exact absurd h.1 (Int32.not_le.mpr q)
  · exact absurd h.2 (Nat.not_lt.mpr q)
theorem zE_weak {α : Type} {G : zGT} {l : Launch} {cc : ByteArray} {own : String} {nL d C N : Nat} {ini : Bool} {T : Option Value × zMem} {enc : α → Option Value} {Λ : zLay} {k n pc : Nat} {L L' : zLs} {st : List Value} {σ : zMem} {e : Option (α × zMem)} (h : zOk G l cc own nL d C N ini) (ms : List Bool) (hm : List.zipWith (fun (b : Bool) x => if b = true then x else none) ms L = L') (kk : zE G T enc Λ k n pc L' st σ e) : zE G T enc Λ k n pc L st σ e := by
  obtain ⟨p, e0, R, s, m, args, below, meth, c, D, cA, b, ext, Q, rfl, hx, hb, hml, hown, hts, hK, hfr, hlo, hC, hN, hini, hbs⟩ := h
  intro r S h1 h2 h3 H locs ls hP hS hl
  refine kk r S h1 h2 h3 H locs ls hP hS ⟨hl.1, hl.2.1, fun i v hv => hl.2.2 i v ?_⟩
  rw [← hm, List.getElem?_zipWith] at hv
  cases hx1 : ms[i]? with
  | none => simp [hx1] at hv
  | some b2 => cases hx2 : L[i]? with
    | none => simp [hx1, hx2] at hv
    | some w =>
      simp only [hx1, hx2, Option.some.injEq] at hv
      cases b2 with
      | false => simp at hv
      | true => simpa using hv
def zPr (cv : Nat → Nat) : Nat → zLs → List (Nat × Value)
  | _, [] => []
  | i, none :: r => zPr cv (i + 1) r
  | i, some v :: r => (i, zV cv v) :: zPr cv (i + 1) r
theorem zPr_in (cv : Nat → Nat) : ∀ (L : zLs) (j i : Nat) (v : Value), L[i]? = some (some v) → (j + i, zV cv v) ∈ zPr cv j L
  | [], j, i, v, h => by simp at h
  | u :: r, j, 0, v, h => by
    simp only [List.getElem?_cons_zero, Option.some.injEq] at h
    subst h
    exact List.mem_cons_self
  | u :: r, j, i + 1, v, h => by
    simp only [List.getElem?_cons_succ] at h
    have h2 := zPr_in cv r (j + 1) i v h
    rw [show j + 1 + i = j + (i + 1) by omega] at h2
    cases u with
    | none => exact h2
    | some w => exact List.mem_cons_of_mem _ h2
theorem zPr_of (cv : Nat → Nat) : ∀ (L : zLs) (j : Nat) (q : Nat × Value), q ∈ zPr cv j L → ∃ (i : Nat) (v : Value), L[i]? = some (some v) ∧ q = (j + i, zV cv v)
  | [], j, q, h => by simp [zPr] at h
  | none :: r, j, q, h => by
    obtain ⟨i, v, h1, h2⟩ := zPr_of cv r (j + 1) q h
    exact ⟨i + 1, v, by simpa using h1, by rw [h2, show j + 1 + i = j + (i + 1) by omega]⟩
  | some w :: r, j, q, h => by
    rcases List.mem_cons.mp h with h | h
    · exact ⟨0, w, by simp, h⟩
    · obtain ⟨i, v, h1, h2⟩ := zPr_of cv r (j + 1) q h
      exact ⟨i + 1, v, by simpa using h1, by rw [h2, show j + 1 + i = j + (i + 1) by omega]⟩
theorem zHas.lv {cv : Nat → Nat} {ls : Array Slot} {nL : Nat} {L : zLs} (h : zHas cv ls nL L) : lv_has ls nL (zPr cv 0 L) := by
  refine ⟨h.1, h.2.1, fun q hq => ?_⟩
  obtain ⟨i, v, h1, h2⟩ := zPr_of cv L 0 q hq
  subst h2
  simpa using h.2.2 i v h1
def zNl (L : zLs) (i : Nat) : Bool := match i with
  | 0 => true
  | j + 1 => match L[j]? with
    | some (some v) => v.category == 1
    | _ => true
theorem zset1 {cv : Nat → Nat} {ls : Array Slot} {nL i : Nat} {L L' : zLs} {v : Value} (hn : zNl L i = true) (hs : L.set i (some v) = L') (h : lv_has ls nL ((i, zV cv v) :: (zPr cv 0 L).filter (fun q => !(q.1 == i) && !(q.1 + 1 == i && q.2.category == 2)))) : zHas cv ls nL L' := by
  refine ⟨h.1, h.2.1, fun j w hw => ?_⟩
  subst hs
  by_cases hj : j = i
  · subst hj
    rw [List.getElem?_set] at hw
    simp only [if_true] at hw
    split at hw
    · simp only [Option.some.injEq] at hw
      subst hw
      exact h.2.2 _ List.mem_cons_self
    · cases hw
  · rw [List.getElem?_set_ne (fun q => hj q.symm)] at hw
    have hm := zPr_in cv L 0 j w hw
    rw [Nat.zero_add] at hm
    refine h.2.2 (j, zV cv w) (List.mem_cons_of_mem _ (List.mem_filter.mpr ⟨hm, ?_⟩))
    have h1 : (j == i) = false := by simp [hj]
    simp only [h1, Bool.not_false, Bool.true_and, Bool.not_eq_true']
    by_cases hji : j + 1 = i
    · subst hji
      simp only [zNl, hw, beq_iff_eq] at hn
      simp [zV_cat, hn]
    · simp [hji]
theorem zset2 {cv : Nat → Nat} {ls : Array Slot} {nL i : Nat} {L L' : zLs} {v : Value} (hn : zNl L i = true) (hs : (L.set i (some v)).set (i + 1) none = L') (h : lv_has ls nL ((i, zV cv v) :: (zPr cv 0 L).filter (fun q => !(q.1 == i) && (!(q.1 == i + 1) && !(q.1 + 1 == i && q.2.category == 2))))) : zHas cv ls nL L' := by
  refine ⟨h.1, h.2.1, fun j w hw => ?_⟩
  subst hs
  by_cases hj1 : j = i + 1
  · subst hj1
    rw [List.getElem?_set] at hw
    simp only [if_true] at hw
    split at hw <;> simp at hw
  rw [List.getElem?_set_ne (fun q => hj1 q.symm)] at hw
  by_cases hj : j = i
  · subst hj
    rw [List.getElem?_set] at hw
    simp only [if_true] at hw
    split at hw
    · simp only [Option.some.injEq] at hw
      subst hw
      exact h.2.2 _ List.mem_cons_self
    · cases hw
  · rw [List.getElem?_set_ne (fun q => hj q.symm)] at hw
    have hm := zPr_in cv L 0 j w hw
    rw [Nat.zero_add] at hm
    refine h.2.2 (j, zV cv w) (List.mem_cons_of_mem _ (List.mem_filter.mpr ⟨hm, ?_⟩))
    have h1 : (j == i) = false := by simp [hj]
    have h0 : (j == i + 1) = false := by simp [hj1]
    simp only [h1, h0, Bool.not_false, Bool.true_and, Bool.not_eq_true']
    by_cases hji : j + 1 = i
    · subst hji
      simp only [zNl, hw, beq_iff_eq] at hn
      simp [zV_cat, hn]
    · simp [hji]
theorem zCat (cv : Nat → Nat) (st : List Value) : ((st.map (zV cv)).map fun v => v.category).sum = (st.map fun v => v.category).sum := by
  rw [List.map_map]
  congr 1
  exact List.map_congr_left (fun v _ => zV_cat cv v)
theorem zW_size {p : Program} {l : Launch} {e : Env} {R : Room} {s : State} {m : MethodId} {args : Array Value} {below : List Frame} {meth : Method} {c : Code} {H : Heap} {locs : List Loc} {n : Nat} {Q : State → Prop} {g : JFrame} (hS : s.heap.size ≤ H.size) (kk : H.size = s.heap.size → W p l e R s m args below meth c H locs 0 n Q g) : W p l e R s m args below meth c H locs 0 n Q g := by
  intro T hT X
  refine kk ?_ T hT X
  have := X.heapSize
  rw [hT] at this
  omega

theorem ze_iconst {α : Type} {G : zGT} {l : Launch} {cc : ByteArray} {own : String} {nL d C N : Nat} {ini : Bool} {T : Option Value × zMem} {enc : α → Option Value} {Λ : zLay} {k n pc : Nat} {L : zLs} {st : List Value} {σ : zMem} {e : Option (α × zMem)} (h : zOk G l cc own nL d C N ini) {q : Int} (v : Int32) (hd : decode cc pc = .ok (.iconst q, 1)) (hv : Int32.ofInt q = v) (kk : zE G T enc Λ k n (pc + 1) L (.int v :: st) σ e) : zE G T enc Λ k n pc L st σ e := by
  obtain ⟨p, e0, R, s, m, args, below, meth, c, D, cA, b, ext, Q, rfl, hx, hb, hml, hown, hts, hK, hfr, hlo, hC, hN, hini, hbs⟩ := h
  intro r S h1 h2 h3 H locs ls hP hS hl
  exact lv_iconst hx hb hd hv (kk r S h1 h2 h3 H locs ls hP hS hl)
theorem ze_bipush {α : Type} {G : zGT} {l : Launch} {cc : ByteArray} {own : String} {nL d C N : Nat} {ini : Bool} {T : Option Value × zMem} {enc : α → Option Value} {Λ : zLay} {k n pc : Nat} {L : zLs} {st : List Value} {σ : zMem} {e : Option (α × zMem)} (h : zOk G l cc own nL d C N ini) {q : Int} (v : Int32) (hd : decode cc pc = .ok (.bipush q, 2)) (hv : (Int8.ofInt q).toInt32 = v) (kk : zE G T enc Λ k n (pc + 2) L (.int v :: st) σ e) : zE G T enc Λ k n pc L st σ e := by
  obtain ⟨p, e0, R, s, m, args, below, meth, c, D, cA, b, ext, Q, rfl, hx, hb, hml, hown, hts, hK, hfr, hlo, hC, hN, hini, hbs⟩ := h
  intro r S h1 h2 h3 H locs ls hP hS hl
  exact lv_bipush hx hb hd hv (kk r S h1 h2 h3 H locs ls hP hS hl)
theorem ze_sipush {α : Type} {G : zGT} {l : Launch} {cc : ByteArray} {own : String} {nL d C N : Nat} {ini : Bool} {T : Option Value × zMem} {enc : α → Option Value} {Λ : zLay} {k n pc : Nat} {L : zLs} {st : List Value} {σ : zMem} {e : Option (α × zMem)} (h : zOk G l cc own nL d C N ini) {q : Int} (v : Int32) (hd : decode cc pc = .ok (.sipush q, 3)) (hv : (Int16.ofInt q).toInt32 = v) (kk : zE G T enc Λ k n (pc + 3) L (.int v :: st) σ e) : zE G T enc Λ k n pc L st σ e := by
  obtain ⟨p, e0, R, s, m, args, below, meth, c, D, cA, b, ext, Q, rfl, hx, hb, hml, hown, hts, hK, hfr, hlo, hC, hN, hini, hbs⟩ := h
  intro r S h1 h2 h3 H locs ls hP hS hl
  exact lv_sipush hx hb hd hv (kk r S h1 h2 h3 H locs ls hP hS hl)
theorem ze_lconst {α : Type} {G : zGT} {l : Launch} {cc : ByteArray} {own : String} {nL d C N : Nat} {ini : Bool} {T : Option Value × zMem} {enc : α → Option Value} {Λ : zLay} {k n pc : Nat} {L : zLs} {st : List Value} {σ : zMem} {e : Option (α × zMem)} (h : zOk G l cc own nL d C N ini) {q : Fin 2} (v : Int64) (hd : decode cc pc = .ok (.lconst q, 1)) (hv : Int64.ofNat (q : Nat) = v) (kk : zE G T enc Λ k n (pc + 1) L (.long v :: st) σ e) : zE G T enc Λ k n pc L st σ e := by
  obtain ⟨p, e0, R, s, m, args, below, meth, c, D, cA, b, ext, Q, rfl, hx, hb, hml, hown, hts, hK, hfr, hlo, hC, hN, hini, hbs⟩ := h
  intro r S h1 h2 h3 H locs ls hP hS hl
  exact lv_lconst hx hb hd hv (kk r S h1 h2 h3 H locs ls hP hS hl)
theorem ze_iload_n {α : Type} {G : zGT} {l : Launch} {cc : ByteArray} {own : String} {nL d C N : Nat} {ini : Bool} {T : Option Value × zMem} {enc : α → Option Value} {Λ : zLay} {k n pc : Nat} {L : zLs} {st : List Value} {σ : zMem} {e : Option (α × zMem)} (h : zOk G l cc own nL d C N ini) {q : Fin 4} {x : Int32} (hd : decode cc pc = .ok (.iload_n q, 1)) (hL : L[(q : Nat)]? = some (some (.int x))) (kk : zE G T enc Λ k n (pc + 1) L (.int x :: st) σ e) : zE G T enc Λ k n pc L st σ e := by
  obtain ⟨p, e0, R, s, m, args, below, meth, c, D, cA, b, ext, Q, rfl, hx, hb, hml, hown, hts, hK, hfr, hlo, hC, hN, hini, hbs⟩ := h
  intro r S h1 h2 h3 H locs ls hP hS hl
  exact lv_iload_n hx hb hd rfl (hl.2.2 _ _ hL) (kk r S h1 h2 h3 H locs ls hP hS hl)
theorem ze_iload {α : Type} {G : zGT} {l : Launch} {cc : ByteArray} {own : String} {nL d C N : Nat} {ini : Bool} {T : Option Value × zMem} {enc : α → Option Value} {Λ : zLay} {k n pc : Nat} {L : zLs} {st : List Value} {σ : zMem} {e : Option (α × zMem)} (h : zOk G l cc own nL d C N ini) {q : Nat} {x : Int32} (hd : decode cc pc = .ok (.iload q, 2)) (hL : L[q]? = some (some (.int x))) (kk : zE G T enc Λ k n (pc + 2) L (.int x :: st) σ e) : zE G T enc Λ k n pc L st σ e := by
  obtain ⟨p, e0, R, s, m, args, below, meth, c, D, cA, b, ext, Q, rfl, hx, hb, hml, hown, hts, hK, hfr, hlo, hC, hN, hini, hbs⟩ := h
  intro r S h1 h2 h3 H locs ls hP hS hl
  exact lv_iload hx hb hd (hl.2.2 _ _ hL) (kk r S h1 h2 h3 H locs ls hP hS hl)
theorem ze_lload_n {α : Type} {G : zGT} {l : Launch} {cc : ByteArray} {own : String} {nL d C N : Nat} {ini : Bool} {T : Option Value × zMem} {enc : α → Option Value} {Λ : zLay} {k n pc : Nat} {L : zLs} {st : List Value} {σ : zMem} {e : Option (α × zMem)} (h : zOk G l cc own nL d C N ini) {q : Fin 4} {x : Int64} (hd : decode cc pc = .ok (.lload_n q, 1)) (hL : L[(q : Nat)]? = some (some (.long x))) (kk : zE G T enc Λ k n (pc + 1) L (.long x :: st) σ e) : zE G T enc Λ k n pc L st σ e := by
  obtain ⟨p, e0, R, s, m, args, below, meth, c, D, cA, b, ext, Q, rfl, hx, hb, hml, hown, hts, hK, hfr, hlo, hC, hN, hini, hbs⟩ := h
  intro r S h1 h2 h3 H locs ls hP hS hl
  exact lv_lload_n hx hb hd rfl (hl.2.2 _ _ hL) (kk r S h1 h2 h3 H locs ls hP hS hl)
theorem ze_lload {α : Type} {G : zGT} {l : Launch} {cc : ByteArray} {own : String} {nL d C N : Nat} {ini : Bool} {T : Option Value × zMem} {enc : α → Option Value} {Λ : zLay} {k n pc : Nat} {L : zLs} {st : List Value} {σ : zMem} {e : Option (α × zMem)} (h : zOk G l cc own nL d C N ini) {q : Nat} {x : Int64} (hd : decode cc pc = .ok (.lload q, 2)) (hL : L[q]? = some (some (.long x))) (kk : zE G T enc Λ k n (pc + 2) L (.long x :: st) σ e) : zE G T enc Λ k n pc L st σ e := by
  obtain ⟨p, e0, R, s, m, args, below, meth, c, D, cA, b, ext, Q, rfl, hx, hb, hml, hown, hts, hK, hfr, hlo, hC, hN, hini, hbs⟩ := h
  intro r S h1 h2 h3 H locs ls hP hS hl
  exact lv_lload hx hb hd (hl.2.2 _ _ hL) (kk r S h1 h2 h3 H locs ls hP hS hl)
theorem ze_aload_n {α : Type} {G : zGT} {l : Launch} {cc : ByteArray} {own : String} {nL d C N : Nat} {ini : Bool} {T : Option Value × zMem} {enc : α → Option Value} {Λ : zLay} {k n pc : Nat} {L : zLs} {st : List Value} {σ : zMem} {e : Option (α × zMem)} (h : zOk G l cc own nL d C N ini) {q : Fin 4} {x : Nat} (hd : decode cc pc = .ok (.aload_n q, 1)) (hL : L[(q : Nat)]? = some (some (.ref x))) (kk : zE G T enc Λ k n (pc + 1) L (.ref x :: st) σ e) : zE G T enc Λ k n pc L st σ e := by
  obtain ⟨p, e0, R, s, m, args, below, meth, c, D, cA, b, ext, Q, rfl, hx, hb, hml, hown, hts, hK, hfr, hlo, hC, hN, hini, hbs⟩ := h
  intro r S h1 h2 h3 H locs ls hP hS hl
  exact lv_aload_n hx hb hd rfl (hl.2.2 _ _ hL) (kk r S h1 h2 h3 H locs ls hP hS hl)
theorem ze_aload {α : Type} {G : zGT} {l : Launch} {cc : ByteArray} {own : String} {nL d C N : Nat} {ini : Bool} {T : Option Value × zMem} {enc : α → Option Value} {Λ : zLay} {k n pc : Nat} {L : zLs} {st : List Value} {σ : zMem} {e : Option (α × zMem)} (h : zOk G l cc own nL d C N ini) {q : Nat} {x : Nat} (hd : decode cc pc = .ok (.aload q, 2)) (hL : L[q]? = some (some (.ref x))) (kk : zE G T enc Λ k n (pc + 2) L (.ref x :: st) σ e) : zE G T enc Λ k n pc L st σ e := by
  obtain ⟨p, e0, R, s, m, args, below, meth, c, D, cA, b, ext, Q, rfl, hx, hb, hml, hown, hts, hK, hfr, hlo, hC, hN, hini, hbs⟩ := h
  intro r S h1 h2 h3 H locs ls hP hS hl
  exact lv_aload hx hb hd (hl.2.2 _ _ hL) (kk r S h1 h2 h3 H locs ls hP hS hl)
theorem ze_istore_n {α : Type} {G : zGT} {l : Launch} {cc : ByteArray} {own : String} {nL d C N : Nat} {ini : Bool} {T : Option Value × zMem} {enc : α → Option Value} {Λ : zLay} {k n pc : Nat} {L : zLs} {st : List Value} {σ : zMem} {e : Option (α × zMem)} (h : zOk G l cc own nL d C N ini) {q : Fin 4} {x : Int32} (L' : zLs) (hd : decode cc pc = .ok (.istore_n q, 1)) (hn : zNl L (q : Nat) = true) (hlt : (q : Nat) < nL) (hs : L.set (q : Nat) (some (.int x)) = L') (kk : zE G T enc Λ k n (pc + 1) L' st σ e) : zE G T enc Λ k n pc L (.int x :: st) σ e := by
  obtain ⟨p, e0, R, s, m, args, below, meth, c, D, cA, b, ext, Q, rfl, hx, hb, hml, hown, hts, hK, hfr, hlo, hC, hN, hini, hbs⟩ := h
  intro r S h1 h2 h3 H locs ls hP hS hl
  exact lv_istore_n hx hb hd rfl hl.lv hlt rfl (fun ls' hl' => kk r S h1 h2 h3 H locs ls' hP hS (zset1 hn hs hl'))
theorem ze_istore {α : Type} {G : zGT} {l : Launch} {cc : ByteArray} {own : String} {nL d C N : Nat} {ini : Bool} {T : Option Value × zMem} {enc : α → Option Value} {Λ : zLay} {k n pc : Nat} {L : zLs} {st : List Value} {σ : zMem} {e : Option (α × zMem)} (h : zOk G l cc own nL d C N ini) {q : Nat} {x : Int32} (L' : zLs) (hd : decode cc pc = .ok (.istore q, 2)) (hn : zNl L q = true) (hlt : q < nL) (hs : L.set q (some (.int x)) = L') (kk : zE G T enc Λ k n (pc + 2) L' st σ e) : zE G T enc Λ k n pc L (.int x :: st) σ e := by
  obtain ⟨p, e0, R, s, m, args, below, meth, c, D, cA, b, ext, Q, rfl, hx, hb, hml, hown, hts, hK, hfr, hlo, hC, hN, hini, hbs⟩ := h
  intro r S h1 h2 h3 H locs ls hP hS hl
  exact lv_istore hx hb hd hl.lv hlt rfl (fun ls' hl' => kk r S h1 h2 h3 H locs ls' hP hS (zset1 hn hs hl'))
theorem ze_lstore_n {α : Type} {G : zGT} {l : Launch} {cc : ByteArray} {own : String} {nL d C N : Nat} {ini : Bool} {T : Option Value × zMem} {enc : α → Option Value} {Λ : zLay} {k n pc : Nat} {L : zLs} {st : List Value} {σ : zMem} {e : Option (α × zMem)} (h : zOk G l cc own nL d C N ini) {q : Fin 4} {x : Int64} (L' : zLs) (hd : decode cc pc = .ok (.lstore_n q, 1)) (hn : zNl L (q : Nat) = true) (hlt : (q : Nat) + 1 < nL) (hs : (L.set (q : Nat) (some (.long x))).set ((q : Nat) + 1) none = L') (kk : zE G T enc Λ k n (pc + 1) L' st σ e) : zE G T enc Λ k n pc L (.long x :: st) σ e := by
  obtain ⟨p, e0, R, s, m, args, below, meth, c, D, cA, b, ext, Q, rfl, hx, hb, hml, hown, hts, hK, hfr, hlo, hC, hN, hini, hbs⟩ := h
  intro r S h1 h2 h3 H locs ls hP hS hl
  exact lv_lstore_n hx hb hd rfl hl.lv hlt rfl (fun ls' hl' => kk r S h1 h2 h3 H locs ls' hP hS (zset2 hn hs hl'))
theorem ze_lstore {α : Type} {G : zGT} {l : Launch} {cc : ByteArray} {own : String} {nL d C N : Nat} {ini : Bool} {T : Option Value × zMem} {enc : α → Option Value} {Λ : zLay} {k n pc : Nat} {L : zLs} {st : List Value} {σ : zMem} {e : Option (α × zMem)} (h : zOk G l cc own nL d C N ini) {q : Nat} {x : Int64} (L' : zLs) (hd : decode cc pc = .ok (.lstore q, 2)) (hn : zNl L q = true) (hlt : q + 1 < nL) (hs : (L.set q (some (.long x))).set (q + 1) none = L') (kk : zE G T enc Λ k n (pc + 2) L' st σ e) : zE G T enc Λ k n pc L (.long x :: st) σ e := by
  obtain ⟨p, e0, R, s, m, args, below, meth, c, D, cA, b, ext, Q, rfl, hx, hb, hml, hown, hts, hK, hfr, hlo, hC, hN, hini, hbs⟩ := h
  intro r S h1 h2 h3 H locs ls hP hS hl
  exact lv_lstore hx hb hd hl.lv hlt rfl (fun ls' hl' => kk r S h1 h2 h3 H locs ls' hP hS (zset2 hn hs hl'))
theorem ze_astore_n {α : Type} {G : zGT} {l : Launch} {cc : ByteArray} {own : String} {nL d C N : Nat} {ini : Bool} {T : Option Value × zMem} {enc : α → Option Value} {Λ : zLay} {k n pc : Nat} {L : zLs} {st : List Value} {σ : zMem} {e : Option (α × zMem)} (h : zOk G l cc own nL d C N ini) {q : Fin 4} {x : Nat} (L' : zLs) (hd : decode cc pc = .ok (.astore_n q, 1)) (hn : zNl L (q : Nat) = true) (hlt : (q : Nat) < nL) (hs : L.set (q : Nat) (some (.ref x)) = L') (kk : zE G T enc Λ k n (pc + 1) L' st σ e) : zE G T enc Λ k n pc L (.ref x :: st) σ e := by
  obtain ⟨p, e0, R, s, m, args, below, meth, c, D, cA, b, ext, Q, rfl, hx, hb, hml, hown, hts, hK, hfr, hlo, hC, hN, hini, hbs⟩ := h
  intro r S h1 h2 h3 H locs ls hP hS hl
  exact lv_astore_n hx hb hd rfl hl.lv hlt rfl (fun ls' hl' => kk r S h1 h2 h3 H locs ls' hP hS (zset1 hn hs hl'))
theorem ze_astore {α : Type} {G : zGT} {l : Launch} {cc : ByteArray} {own : String} {nL d C N : Nat} {ini : Bool} {T : Option Value × zMem} {enc : α → Option Value} {Λ : zLay} {k n pc : Nat} {L : zLs} {st : List Value} {σ : zMem} {e : Option (α × zMem)} (h : zOk G l cc own nL d C N ini) {q : Nat} {x : Nat} (L' : zLs) (hd : decode cc pc = .ok (.astore q, 2)) (hn : zNl L q = true) (hlt : q < nL) (hs : L.set q (some (.ref x)) = L') (kk : zE G T enc Λ k n (pc + 2) L' st σ e) : zE G T enc Λ k n pc L (.ref x :: st) σ e := by
  obtain ⟨p, e0, R, s, m, args, below, meth, c, D, cA, b, ext, Q, rfl, hx, hb, hml, hown, hts, hK, hfr, hlo, hC, hN, hini, hbs⟩ := h
  intro r S h1 h2 h3 H locs ls hP hS hl
  exact lv_astore hx hb hd hl.lv hlt rfl (fun ls' hl' => kk r S h1 h2 h3 H locs ls' hP hS (zset1 hn hs hl'))
theorem ze_iinc {α : Type} {G : zGT} {l : Launch} {cc : ByteArray} {own : String} {nL d C N : Nat} {ini : Bool} {T : Option Value × zMem} {enc : α → Option Value} {Λ : zLay} {k n pc : Nat} {L : zLs} {st : List Value} {σ : zMem} {e : Option (α × zMem)} (h : zOk G l cc own nL d C N ini) {i : Nat} {q : Int} {x : Int32} (v : Int32) (L' : zLs) (hd : decode cc pc = .ok (.iinc i q, 3)) (hL : L[i]? = some (some (.int x))) (hv : x + Int32.ofInt q = v) (hn : zNl L i = true) (hlt : i < nL) (hs : L.set i (some (.int v)) = L') (kk : zE G T enc Λ k n (pc + 3) L' st σ e) : zE G T enc Λ k n pc L st σ e := by
  obtain ⟨p, e0, R, s, m, args, below, meth, c, D, cA, b, ext, Q, rfl, hx, hb, hml, hown, hts, hK, hfr, hlo, hC, hN, hini, hbs⟩ := h
  intro r S h1 h2 h3 H locs ls hP hS hl
  have hm := zPr_in (zcv b ext) L 0 i _ hL
  rw [Nat.zero_add] at hm
  obtain ⟨j, hj⟩ := List.mem_iff_getElem?.mp hm
  exact lv_iinc hx hb hd hl.lv (k := j) hj hv hlt rfl (fun ls' hl' => kk r S h1 h2 h3 H locs ls' hP hS (zset1 hn hs hl'))
theorem ze_iadd {α : Type} {G : zGT} {l : Launch} {cc : ByteArray} {own : String} {nL d C N : Nat} {ini : Bool} {T : Option Value × zMem} {enc : α → Option Value} {Λ : zLay} {k n pc : Nat} {L : zLs} {st : List Value} {σ : zMem} {e : Option (α × zMem)} (h : zOk G l cc own nL d C N ini) {x y : Int32} (hd : decode cc pc = .ok (.iadd, 1)) (kk : zE G T enc Λ k n (pc + 1) L (.int (x + y) :: st) σ e) : zE G T enc Λ k n pc L (.int y :: .int x :: st) σ e := by
  obtain ⟨p, e0, R, s, m, args, below, meth, c, D, cA, b, ext, Q, rfl, hx, hb, hml, hown, hts, hK, hfr, hlo, hC, hN, hini, hbs⟩ := h
  intro r S h1 h2 h3 H locs ls hP hS hl
  exact lv_iadd hx hb hd (kk r S h1 h2 h3 H locs ls hP hS hl)
theorem ze_isub {α : Type} {G : zGT} {l : Launch} {cc : ByteArray} {own : String} {nL d C N : Nat} {ini : Bool} {T : Option Value × zMem} {enc : α → Option Value} {Λ : zLay} {k n pc : Nat} {L : zLs} {st : List Value} {σ : zMem} {e : Option (α × zMem)} (h : zOk G l cc own nL d C N ini) {x y : Int32} (hd : decode cc pc = .ok (.isub, 1)) (kk : zE G T enc Λ k n (pc + 1) L (.int (x - y) :: st) σ e) : zE G T enc Λ k n pc L (.int y :: .int x :: st) σ e := by
  obtain ⟨p, e0, R, s, m, args, below, meth, c, D, cA, b, ext, Q, rfl, hx, hb, hml, hown, hts, hK, hfr, hlo, hC, hN, hini, hbs⟩ := h
  intro r S h1 h2 h3 H locs ls hP hS hl
  exact lv_isub hx hb hd (kk r S h1 h2 h3 H locs ls hP hS hl)
theorem ze_imul {α : Type} {G : zGT} {l : Launch} {cc : ByteArray} {own : String} {nL d C N : Nat} {ini : Bool} {T : Option Value × zMem} {enc : α → Option Value} {Λ : zLay} {k n pc : Nat} {L : zLs} {st : List Value} {σ : zMem} {e : Option (α × zMem)} (h : zOk G l cc own nL d C N ini) {x y : Int32} (hd : decode cc pc = .ok (.imul, 1)) (kk : zE G T enc Λ k n (pc + 1) L (.int (x * y) :: st) σ e) : zE G T enc Λ k n pc L (.int y :: .int x :: st) σ e := by
  obtain ⟨p, e0, R, s, m, args, below, meth, c, D, cA, b, ext, Q, rfl, hx, hb, hml, hown, hts, hK, hfr, hlo, hC, hN, hini, hbs⟩ := h
  intro r S h1 h2 h3 H locs ls hP hS hl
  exact lv_imul hx hb hd (kk r S h1 h2 h3 H locs ls hP hS hl)
theorem ze_iand {α : Type} {G : zGT} {l : Launch} {cc : ByteArray} {own : String} {nL d C N : Nat} {ini : Bool} {T : Option Value × zMem} {enc : α → Option Value} {Λ : zLay} {k n pc : Nat} {L : zLs} {st : List Value} {σ : zMem} {e : Option (α × zMem)} (h : zOk G l cc own nL d C N ini) {x y : Int32} (hd : decode cc pc = .ok (.iand, 1)) (kk : zE G T enc Λ k n (pc + 1) L (.int (x &&& y) :: st) σ e) : zE G T enc Λ k n pc L (.int y :: .int x :: st) σ e := by
  obtain ⟨p, e0, R, s, m, args, below, meth, c, D, cA, b, ext, Q, rfl, hx, hb, hml, hown, hts, hK, hfr, hlo, hC, hN, hini, hbs⟩ := h
  intro r S h1 h2 h3 H locs ls hP hS hl
  exact lv_iand hx hb hd (kk r S h1 h2 h3 H locs ls hP hS hl)
theorem ze_ior {α : Type} {G : zGT} {l : Launch} {cc : ByteArray} {own : String} {nL d C N : Nat} {ini : Bool} {T : Option Value × zMem} {enc : α → Option Value} {Λ : zLay} {k n pc : Nat} {L : zLs} {st : List Value} {σ : zMem} {e : Option (α × zMem)} (h : zOk G l cc own nL d C N ini) {x y : Int32} (hd : decode cc pc = .ok (.ior, 1)) (kk : zE G T enc Λ k n (pc + 1) L (.int (x ||| y) :: st) σ e) : zE G T enc Λ k n pc L (.int y :: .int x :: st) σ e := by
  obtain ⟨p, e0, R, s, m, args, below, meth, c, D, cA, b, ext, Q, rfl, hx, hb, hml, hown, hts, hK, hfr, hlo, hC, hN, hini, hbs⟩ := h
  intro r S h1 h2 h3 H locs ls hP hS hl
  exact lv_ior hx hb hd (kk r S h1 h2 h3 H locs ls hP hS hl)
theorem ze_ixor {α : Type} {G : zGT} {l : Launch} {cc : ByteArray} {own : String} {nL d C N : Nat} {ini : Bool} {T : Option Value × zMem} {enc : α → Option Value} {Λ : zLay} {k n pc : Nat} {L : zLs} {st : List Value} {σ : zMem} {e : Option (α × zMem)} (h : zOk G l cc own nL d C N ini) {x y : Int32} (hd : decode cc pc = .ok (.ixor, 1)) (kk : zE G T enc Λ k n (pc + 1) L (.int (x ^^^ y) :: st) σ e) : zE G T enc Λ k n pc L (.int y :: .int x :: st) σ e := by
  obtain ⟨p, e0, R, s, m, args, below, meth, c, D, cA, b, ext, Q, rfl, hx, hb, hml, hown, hts, hK, hfr, hlo, hC, hN, hini, hbs⟩ := h
  intro r S h1 h2 h3 H locs ls hP hS hl
  exact lv_ixor hx hb hd (kk r S h1 h2 h3 H locs ls hP hS hl)
theorem ze_ishl {α : Type} {G : zGT} {l : Launch} {cc : ByteArray} {own : String} {nL d C N : Nat} {ini : Bool} {T : Option Value × zMem} {enc : α → Option Value} {Λ : zLay} {k n pc : Nat} {L : zLs} {st : List Value} {σ : zMem} {e : Option (α × zMem)} (h : zOk G l cc own nL d C N ini) {x y : Int32} (hd : decode cc pc = .ok (.ishl, 1)) (kk : zE G T enc Λ k n (pc + 1) L (.int (x <<< (y &&& 31)) :: st) σ e) : zE G T enc Λ k n pc L (.int y :: .int x :: st) σ e := by
  obtain ⟨p, e0, R, s, m, args, below, meth, c, D, cA, b, ext, Q, rfl, hx, hb, hml, hown, hts, hK, hfr, hlo, hC, hN, hini, hbs⟩ := h
  intro r S h1 h2 h3 H locs ls hP hS hl
  exact lv_ishl hx hb hd (kk r S h1 h2 h3 H locs ls hP hS hl)
theorem ze_ishr {α : Type} {G : zGT} {l : Launch} {cc : ByteArray} {own : String} {nL d C N : Nat} {ini : Bool} {T : Option Value × zMem} {enc : α → Option Value} {Λ : zLay} {k n pc : Nat} {L : zLs} {st : List Value} {σ : zMem} {e : Option (α × zMem)} (h : zOk G l cc own nL d C N ini) {x y : Int32} (hd : decode cc pc = .ok (.ishr, 1)) (kk : zE G T enc Λ k n (pc + 1) L (.int (x >>> (y &&& 31)) :: st) σ e) : zE G T enc Λ k n pc L (.int y :: .int x :: st) σ e := by
  obtain ⟨p, e0, R, s, m, args, below, meth, c, D, cA, b, ext, Q, rfl, hx, hb, hml, hown, hts, hK, hfr, hlo, hC, hN, hini, hbs⟩ := h
  intro r S h1 h2 h3 H locs ls hP hS hl
  exact lv_ishr hx hb hd (kk r S h1 h2 h3 H locs ls hP hS hl)
theorem ze_iushr {α : Type} {G : zGT} {l : Launch} {cc : ByteArray} {own : String} {nL d C N : Nat} {ini : Bool} {T : Option Value × zMem} {enc : α → Option Value} {Λ : zLay} {k n pc : Nat} {L : zLs} {st : List Value} {σ : zMem} {e : Option (α × zMem)} (h : zOk G l cc own nL d C N ini) {x y : Int32} (hd : decode cc pc = .ok (.iushr, 1)) (kk : zE G T enc Λ k n (pc + 1) L (.int ((x.toUInt32 >>> (y.toUInt32 &&& Int32.toUInt32 31)).toInt32) :: st) σ e) : zE G T enc Λ k n pc L (.int y :: .int x :: st) σ e := by
  obtain ⟨p, e0, R, s, m, args, below, meth, c, D, cA, b, ext, Q, rfl, hx, hb, hml, hown, hts, hK, hfr, hlo, hC, hN, hini, hbs⟩ := h
  intro r S h1 h2 h3 H locs ls hP hS hl
  exact lv_iushr hx hb hd rfl (kk r S h1 h2 h3 H locs ls hP hS hl)
theorem ze_ineg {α : Type} {G : zGT} {l : Launch} {cc : ByteArray} {own : String} {nL d C N : Nat} {ini : Bool} {T : Option Value × zMem} {enc : α → Option Value} {Λ : zLay} {k n pc : Nat} {L : zLs} {st : List Value} {σ : zMem} {e : Option (α × zMem)} (h : zOk G l cc own nL d C N ini) {x : Int32} (hd : decode cc pc = .ok (.ineg, 1)) (kk : zE G T enc Λ k n (pc + 1) L (.int (-x) :: st) σ e) : zE G T enc Λ k n pc L (.int x :: st) σ e := by
  obtain ⟨p, e0, R, s, m, args, below, meth, c, D, cA, b, ext, Q, rfl, hx, hb, hml, hown, hts, hK, hfr, hlo, hC, hN, hini, hbs⟩ := h
  intro r S h1 h2 h3 H locs ls hP hS hl
  exact lv_ineg hx hb hd (kk r S h1 h2 h3 H locs ls hP hS hl)
theorem ze_ladd {α : Type} {G : zGT} {l : Launch} {cc : ByteArray} {own : String} {nL d C N : Nat} {ini : Bool} {T : Option Value × zMem} {enc : α → Option Value} {Λ : zLay} {k n pc : Nat} {L : zLs} {st : List Value} {σ : zMem} {e : Option (α × zMem)} (h : zOk G l cc own nL d C N ini) {x y : Int64} (hd : decode cc pc = .ok (.ladd, 1)) (kk : zE G T enc Λ k n (pc + 1) L (.long (x + y) :: st) σ e) : zE G T enc Λ k n pc L (.long y :: .long x :: st) σ e := by
  obtain ⟨p, e0, R, s, m, args, below, meth, c, D, cA, b, ext, Q, rfl, hx, hb, hml, hown, hts, hK, hfr, hlo, hC, hN, hini, hbs⟩ := h
  intro r S h1 h2 h3 H locs ls hP hS hl
  exact lv_ladd hx hb hd (kk r S h1 h2 h3 H locs ls hP hS hl)
theorem ze_lsub {α : Type} {G : zGT} {l : Launch} {cc : ByteArray} {own : String} {nL d C N : Nat} {ini : Bool} {T : Option Value × zMem} {enc : α → Option Value} {Λ : zLay} {k n pc : Nat} {L : zLs} {st : List Value} {σ : zMem} {e : Option (α × zMem)} (h : zOk G l cc own nL d C N ini) {x y : Int64} (hd : decode cc pc = .ok (.lsub, 1)) (kk : zE G T enc Λ k n (pc + 1) L (.long (x - y) :: st) σ e) : zE G T enc Λ k n pc L (.long y :: .long x :: st) σ e := by
  obtain ⟨p, e0, R, s, m, args, below, meth, c, D, cA, b, ext, Q, rfl, hx, hb, hml, hown, hts, hK, hfr, hlo, hC, hN, hini, hbs⟩ := h
  intro r S h1 h2 h3 H locs ls hP hS hl
  exact lv_lsub hx hb hd (kk r S h1 h2 h3 H locs ls hP hS hl)
theorem ze_lmul {α : Type} {G : zGT} {l : Launch} {cc : ByteArray} {own : String} {nL d C N : Nat} {ini : Bool} {T : Option Value × zMem} {enc : α → Option Value} {Λ : zLay} {k n pc : Nat} {L : zLs} {st : List Value} {σ : zMem} {e : Option (α × zMem)} (h : zOk G l cc own nL d C N ini) {x y : Int64} (hd : decode cc pc = .ok (.lmul, 1)) (kk : zE G T enc Λ k n (pc + 1) L (.long (x * y) :: st) σ e) : zE G T enc Λ k n pc L (.long y :: .long x :: st) σ e := by
  obtain ⟨p, e0, R, s, m, args, below, meth, c, D, cA, b, ext, Q, rfl, hx, hb, hml, hown, hts, hK, hfr, hlo, hC, hN, hini, hbs⟩ := h
  intro r S h1 h2 h3 H locs ls hP hS hl
  exact lv_lmul hx hb hd (kk r S h1 h2 h3 H locs ls hP hS hl)
def zrem (x y : Int32) : Int32 := x - x / y * y
def zremL (x y : Int64) : Int64 := x - x / y * y
theorem zgd {α : Type} {c : Bool} {e : Option α} {q : α} (h : gd c e = some q) : c = true ∧ e = some q := by
  unfold gd at h
  split at h
  · exact ⟨by assumption, h⟩
  · cases h
theorem ze_idiv {α : Type} {G : zGT} {l : Launch} {cc : ByteArray} {own : String} {nL d C N : Nat} {ini : Bool} {T : Option Value × zMem} {enc : α → Option Value} {Λ : zLay} {k n pc : Nat} {L : zLs} {st : List Value} {σ : zMem} {e : Option (α × zMem)} (h : zOk G l cc own nL d C N ini) {x y : Int32} (hd : decode cc pc = .ok (.idiv, 1)) (hne : ¬ y = 0) (kk : zE G T enc Λ k n (pc + 1) L (.int (x / y) :: st) σ e) : zE G T enc Λ k n pc L (.int y :: .int x :: st) σ e := by
  obtain ⟨p, e0, R, s, m, args, below, meth, c, D, cA, b, ext, Q, rfl, hx, hb, hml, hown, hts, hK, hfr, hlo, hC, hN, hini, hbs⟩ := h
  intro r S h1 h2 h3 H locs ls hP hS hl
  exact lv_idiv hx hb hd hne (kk r S h1 h2 h3 H locs ls hP hS hl)
theorem ze_idivG {α : Type} {G : zGT} {l : Launch} {cc : ByteArray} {own : String} {nL d C N : Nat} {ini : Bool} {T : Option Value × zMem} {enc : α → Option Value} {Λ : zLay} {k n pc : Nat} {L : zLs} {st : List Value} {σ : zMem} {e : Option (α × zMem)} (h : zOk G l cc own nL d C N ini) {x y : Int32} (hd : decode cc pc = .ok (.idiv, 1)) (kk : zE G T enc Λ k n (pc + 1) L (.int (x / y) :: st) σ e) : zE G T enc Λ k n pc L (.int y :: .int x :: st) σ (gd (decide (¬ y = 0)) e) := fun r S h1 h2 h3 => ze_idiv h hd (of_decide_eq_true (zgd h1).1) kk r S (zgd h1).2 h2 h3
theorem ze_irem {α : Type} {G : zGT} {l : Launch} {cc : ByteArray} {own : String} {nL d C N : Nat} {ini : Bool} {T : Option Value × zMem} {enc : α → Option Value} {Λ : zLay} {k n pc : Nat} {L : zLs} {st : List Value} {σ : zMem} {e : Option (α × zMem)} (h : zOk G l cc own nL d C N ini) {x y : Int32} (hd : decode cc pc = .ok (.irem, 1)) (hne : ¬ y = 0) (kk : zE G T enc Λ k n (pc + 1) L (.int (zrem x y) :: st) σ e) : zE G T enc Λ k n pc L (.int y :: .int x :: st) σ e := by
  obtain ⟨p, e0, R, s, m, args, below, meth, c, D, cA, b, ext, Q, rfl, hx, hb, hml, hown, hts, hK, hfr, hlo, hC, hN, hini, hbs⟩ := h
  intro r S h1 h2 h3 H locs ls hP hS hl
  exact lv_irem hx hb hd hne (kk r S h1 h2 h3 H locs ls hP hS hl)
theorem ze_iremG {α : Type} {G : zGT} {l : Launch} {cc : ByteArray} {own : String} {nL d C N : Nat} {ini : Bool} {T : Option Value × zMem} {enc : α → Option Value} {Λ : zLay} {k n pc : Nat} {L : zLs} {st : List Value} {σ : zMem} {e : Option (α × zMem)} (h : zOk G l cc own nL d C N ini) {x y : Int32} (hd : decode cc pc = .ok (.irem, 1)) (kk : zE G T enc Λ k n (pc + 1) L (.int (zrem x y) :: st) σ e) : zE G T enc Λ k n pc L (.int y :: .int x :: st) σ (gd (decide (¬ y = 0)) e) := fun r S h1 h2 h3 => ze_irem h hd (of_decide_eq_true (zgd h1).1) kk r S (zgd h1).2 h2 h3
theorem ze_ldiv {α : Type} {G : zGT} {l : Launch} {cc : ByteArray} {own : String} {nL d C N : Nat} {ini : Bool} {T : Option Value × zMem} {enc : α → Option Value} {Λ : zLay} {k n pc : Nat} {L : zLs} {st : List Value} {σ : zMem} {e : Option (α × zMem)} (h : zOk G l cc own nL d C N ini) {x y : Int64} (hd : decode cc pc = .ok (.ldiv, 1)) (hne : ¬ y = 0) (kk : zE G T enc Λ k n (pc + 1) L (.long (x / y) :: st) σ e) : zE G T enc Λ k n pc L (.long y :: .long x :: st) σ e := by
  obtain ⟨p, e0, R, s, m, args, below, meth, c, D, cA, b, ext, Q, rfl, hx, hb, hml, hown, hts, hK, hfr, hlo, hC, hN, hini, hbs⟩ := h
  intro r S h1 h2 h3 H locs ls hP hS hl
  exact lv_ldiv hx hb hd hne (kk r S h1 h2 h3 H locs ls hP hS hl)
theorem ze_ldivG {α : Type} {G : zGT} {l : Launch} {cc : ByteArray} {own : String} {nL d C N : Nat} {ini : Bool} {T : Option Value × zMem} {enc : α → Option Value} {Λ : zLay} {k n pc : Nat} {L : zLs} {st : List Value} {σ : zMem} {e : Option (α × zMem)} (h : zOk G l cc own nL d C N ini) {x y : Int64} (hd : decode cc pc = .ok (.ldiv, 1)) (kk : zE G T enc Λ k n (pc + 1) L (.long (x / y) :: st) σ e) : zE G T enc Λ k n pc L (.long y :: .long x :: st) σ (gd (decide (¬ y = 0)) e) := fun r S h1 h2 h3 => ze_ldiv h hd (of_decide_eq_true (zgd h1).1) kk r S (zgd h1).2 h2 h3
theorem ze_lrem {α : Type} {G : zGT} {l : Launch} {cc : ByteArray} {own : String} {nL d C N : Nat} {ini : Bool} {T : Option Value × zMem} {enc : α → Option Value} {Λ : zLay} {k n pc : Nat} {L : zLs} {st : List Value} {σ : zMem} {e : Option (α × zMem)} (h : zOk G l cc own nL d C N ini) {x y : Int64} (hd : decode cc pc = .ok (.lrem, 1)) (hne : ¬ y = 0) (kk : zE G T enc Λ k n (pc + 1) L (.long (zremL x y) :: st) σ e) : zE G T enc Λ k n pc L (.long y :: .long x :: st) σ e := by
  obtain ⟨p, e0, R, s, m, args, below, meth, c, D, cA, b, ext, Q, rfl, hx, hb, hml, hown, hts, hK, hfr, hlo, hC, hN, hini, hbs⟩ := h
  intro r S h1 h2 h3 H locs ls hP hS hl
  exact lv_lrem hx hb hd hne (kk r S h1 h2 h3 H locs ls hP hS hl)
theorem ze_lremG {α : Type} {G : zGT} {l : Launch} {cc : ByteArray} {own : String} {nL d C N : Nat} {ini : Bool} {T : Option Value × zMem} {enc : α → Option Value} {Λ : zLay} {k n pc : Nat} {L : zLs} {st : List Value} {σ : zMem} {e : Option (α × zMem)} (h : zOk G l cc own nL d C N ini) {x y : Int64} (hd : decode cc pc = .ok (.lrem, 1)) (kk : zE G T enc Λ k n (pc + 1) L (.long (zremL x y) :: st) σ e) : zE G T enc Λ k n pc L (.long y :: .long x :: st) σ (gd (decide (¬ y = 0)) e) := fun r S h1 h2 h3 => ze_lrem h hd (of_decide_eq_true (zgd h1).1) kk r S (zgd h1).2 h2 h3
theorem ze_i2l {α : Type} {G : zGT} {l : Launch} {cc : ByteArray} {own : String} {nL d C N : Nat} {ini : Bool} {T : Option Value × zMem} {enc : α → Option Value} {Λ : zLay} {k n pc : Nat} {L : zLs} {st : List Value} {σ : zMem} {e : Option (α × zMem)} (h : zOk G l cc own nL d C N ini) {x : Int32} (hd : decode cc pc = .ok (.i2l, 1)) (kk : zE G T enc Λ k n (pc + 1) L (.long x.toInt64 :: st) σ e) : zE G T enc Λ k n pc L (.int x :: st) σ e := by
  obtain ⟨p, e0, R, s, m, args, below, meth, c, D, cA, b, ext, Q, rfl, hx, hb, hml, hown, hts, hK, hfr, hlo, hC, hN, hini, hbs⟩ := h
  intro r S h1 h2 h3 H locs ls hP hS hl
  exact lv_i2l hx hb hd rfl (kk r S h1 h2 h3 H locs ls hP hS hl)
theorem ze_l2i {α : Type} {G : zGT} {l : Launch} {cc : ByteArray} {own : String} {nL d C N : Nat} {ini : Bool} {T : Option Value × zMem} {enc : α → Option Value} {Λ : zLay} {k n pc : Nat} {L : zLs} {st : List Value} {σ : zMem} {e : Option (α × zMem)} (h : zOk G l cc own nL d C N ini) {x : Int64} (hd : decode cc pc = .ok (.l2i, 1)) (kk : zE G T enc Λ k n (pc + 1) L (.int x.toInt32 :: st) σ e) : zE G T enc Λ k n pc L (.long x :: st) σ e := by
  obtain ⟨p, e0, R, s, m, args, below, meth, c, D, cA, b, ext, Q, rfl, hx, hb, hml, hown, hts, hK, hfr, hlo, hC, hN, hini, hbs⟩ := h
  intro r S h1 h2 h3 H locs ls hP hS hl
  exact lv_l2i hx hb hd rfl (kk r S h1 h2 h3 H locs ls hP hS hl)
theorem ze_i2b {α : Type} {G : zGT} {l : Launch} {cc : ByteArray} {own : String} {nL d C N : Nat} {ini : Bool} {T : Option Value × zMem} {enc : α → Option Value} {Λ : zLay} {k n pc : Nat} {L : zLs} {st : List Value} {σ : zMem} {e : Option (α × zMem)} (h : zOk G l cc own nL d C N ini) {x : Int32} (hd : decode cc pc = .ok (.i2b, 1)) (kk : zE G T enc Λ k n (pc + 1) L (.int x.toInt8.toInt32 :: st) σ e) : zE G T enc Λ k n pc L (.int x :: st) σ e := by
  obtain ⟨p, e0, R, s, m, args, below, meth, c, D, cA, b, ext, Q, rfl, hx, hb, hml, hown, hts, hK, hfr, hlo, hC, hN, hini, hbs⟩ := h
  intro r S h1 h2 h3 H locs ls hP hS hl
  exact lv_i2b hx hb hd rfl (kk r S h1 h2 h3 H locs ls hP hS hl)
theorem ze_i2s {α : Type} {G : zGT} {l : Launch} {cc : ByteArray} {own : String} {nL d C N : Nat} {ini : Bool} {T : Option Value × zMem} {enc : α → Option Value} {Λ : zLay} {k n pc : Nat} {L : zLs} {st : List Value} {σ : zMem} {e : Option (α × zMem)} (h : zOk G l cc own nL d C N ini) {x : Int32} (hd : decode cc pc = .ok (.i2s, 1)) (kk : zE G T enc Λ k n (pc + 1) L (.int x.toInt16.toInt32 :: st) σ e) : zE G T enc Λ k n pc L (.int x :: st) σ e := by
  obtain ⟨p, e0, R, s, m, args, below, meth, c, D, cA, b, ext, Q, rfl, hx, hb, hml, hown, hts, hK, hfr, hlo, hC, hN, hini, hbs⟩ := h
  intro r S h1 h2 h3 H locs ls hP hS hl
  exact lv_i2s hx hb hd rfl (kk r S h1 h2 h3 H locs ls hP hS hl)
theorem ze_i2c {α : Type} {G : zGT} {l : Launch} {cc : ByteArray} {own : String} {nL d C N : Nat} {ini : Bool} {T : Option Value × zMem} {enc : α → Option Value} {Λ : zLay} {k n pc : Nat} {L : zLs} {st : List Value} {σ : zMem} {e : Option (α × zMem)} (h : zOk G l cc own nL d C N ini) {x : Int32} (hd : decode cc pc = .ok (.i2c, 1)) (kk : zE G T enc Λ k n (pc + 1) L (.int (x.toUInt32 % 65536).toInt32 :: st) σ e) : zE G T enc Λ k n pc L (.int x :: st) σ e := by
  obtain ⟨p, e0, R, s, m, args, below, meth, c, D, cA, b, ext, Q, rfl, hx, hb, hml, hown, hts, hK, hfr, hlo, hC, hN, hini, hbs⟩ := h
  intro r S h1 h2 h3 H locs ls hP hS hl
  exact lv_i2c hx hb hd rfl (kk r S h1 h2 h3 H locs ls hP hS hl)
theorem ze_lcmp {α : Type} {G : zGT} {l : Launch} {cc : ByteArray} {own : String} {nL d C N : Nat} {ini : Bool} {T : Option Value × zMem} {enc : α → Option Value} {Λ : zLay} {k n pc : Nat} {L : zLs} {st : List Value} {σ : zMem} {e : Option (α × zMem)} (h : zOk G l cc own nL d C N ini) {x y : Int64} (hd : decode cc pc = .ok (.lcmp, 1)) (kk : zE G T enc Λ k n (pc + 1) L (.int (lg_cmp x y) :: st) σ e) : zE G T enc Λ k n pc L (.long y :: .long x :: st) σ e := by
  obtain ⟨p, e0, R, s, m, args, below, meth, c, D, cA, b, ext, Q, rfl, hx, hb, hml, hown, hts, hK, hfr, hlo, hC, hN, hini, hbs⟩ := h
  intro r S h1 h2 h3 H locs ls hP hS hl
  exact W.lcmp hx hb hd (kk r S h1 h2 h3 H locs ls hP hS hl)
theorem ze_dup {α : Type} {G : zGT} {l : Launch} {cc : ByteArray} {own : String} {nL d C N : Nat} {ini : Bool} {T : Option Value × zMem} {enc : α → Option Value} {Λ : zLay} {k n pc : Nat} {L : zLs} {st : List Value} {σ : zMem} {e : Option (α × zMem)} (h : zOk G l cc own nL d C N ini) {v : Value} (hd : decode cc pc = .ok (.dup, 1)) (hv : v.category = 1) (kk : zE G T enc Λ k n (pc + 1) L (v :: v :: st) σ e) : zE G T enc Λ k n pc L (v :: st) σ e := by
  obtain ⟨p, e0, R, s, m, args, below, meth, c, D, cA, b, ext, Q, rfl, hx, hb, hml, hown, hts, hK, hfr, hlo, hC, hN, hini, hbs⟩ := h
  intro r S h1 h2 h3 H locs ls hP hS hl
  exact lv_dup hx hb hd (by rw [zV_cat]; exact hv) (kk r S h1 h2 h3 H locs ls hP hS hl)
theorem ze_dup2 {α : Type} {G : zGT} {l : Launch} {cc : ByteArray} {own : String} {nL d C N : Nat} {ini : Bool} {T : Option Value × zMem} {enc : α → Option Value} {Λ : zLay} {k n pc : Nat} {L : zLs} {st : List Value} {σ : zMem} {e : Option (α × zMem)} (h : zOk G l cc own nL d C N ini) {v w : Value} (hd : decode cc pc = .ok (.dup2, 1)) (hv : v.category = 1) (hw : w.category = 1) (kk : zE G T enc Λ k n (pc + 1) L (v :: w :: v :: w :: st) σ e) : zE G T enc Λ k n pc L (v :: w :: st) σ e := by
  obtain ⟨p, e0, R, s, m, args, below, meth, c, D, cA, b, ext, Q, rfl, hx, hb, hml, hown, hts, hK, hfr, hlo, hC, hN, hini, hbs⟩ := h
  intro r S h1 h2 h3 H locs ls hP hS hl
  exact lv_dup2_11 hx hb hd (by rw [zV_cat]; exact hv) (by rw [zV_cat]; exact hw) (kk r S h1 h2 h3 H locs ls hP hS hl)
theorem ze_pop {α : Type} {G : zGT} {l : Launch} {cc : ByteArray} {own : String} {nL d C N : Nat} {ini : Bool} {T : Option Value × zMem} {enc : α → Option Value} {Λ : zLay} {k n pc : Nat} {L : zLs} {st : List Value} {σ : zMem} {e : Option (α × zMem)} (h : zOk G l cc own nL d C N ini) {v : Value} (hd : decode cc pc = .ok (.pop, 1)) (hv : v.category = 1) (kk : zE G T enc Λ k n (pc + 1) L st σ e) : zE G T enc Λ k n pc L (v :: st) σ e := by
  obtain ⟨p, e0, R, s, m, args, below, meth, c, D, cA, b, ext, Q, rfl, hx, hb, hml, hown, hts, hK, hfr, hlo, hC, hN, hini, hbs⟩ := h
  intro r S h1 h2 h3 H locs ls hP hS hl
  exact lv_pop hx hb hd (by rw [zV_cat]; exact hv) (kk r S h1 h2 h3 H locs ls hP hS hl)
theorem ze_goto {α : Type} {G : zGT} {l : Launch} {cc : ByteArray} {own : String} {nL d C N : Nat} {ini : Bool} {T : Option Value × zMem} {enc : α → Option Value} {Λ : zLay} {k n pc : Nat} {L : zLs} {st : List Value} {σ : zMem} {e : Option (α × zMem)} (h : zOk G l cc own nL d C N ini) {off : Int} (tgt : Nat) (hd : decode cc pc = .ok (.goto off, 3)) (ht : (pc : Int) + off = (tgt : Int)) (kk : zE G T enc Λ k n tgt L st σ e) : zE G T enc Λ k n pc L st σ e := by
  obtain ⟨p, e0, R, s, m, args, below, meth, c, D, cA, b, ext, Q, rfl, hx, hb, hml, hown, hts, hK, hfr, hlo, hC, hN, hini, hbs⟩ := h
  intro r S h1 h2 h3 H locs ls hP hS hl
  exact lv_goto hx hb hd ht (kk r S h1 h2 h3 H locs ls hP hS hl)
theorem ze_icmp_eq {α : Type} {G : zGT} {l : Launch} {cc : ByteArray} {own : String} {nL d C N : Nat} {ini : Bool} {T : Option Value × zMem} {enc : α → Option Value} {Λ : zLay} {k n pc : Nat} {L : zLs} {st : List Value} {σ : zMem} {e1 e2 : Option (α × zMem)} (h : zOk G l cc own nL d C N ini) {x y : Int32} {off : Int} (tgt : Nat) (hd : decode cc pc = .ok (.if_icmp .eq off, 3)) (ht : (pc : Int) + off = (tgt : Int)) (k1 : zE G T enc Λ k n tgt L st σ e1) (k2 : zE G T enc Λ k n (pc + 3) L st σ e2) : zE G T enc Λ k n pc L (.int y :: .int x :: st) σ (if x = y then e1 else e2) := by
  obtain ⟨p, e0, R, s, m, args, below, meth, c, D, cA, b, ext, Q, rfl, hx, hb, hml, hown, hts, hK, hfr, hlo, hC, hN, hini, hbs⟩ := h
  intro r S h1 h2 h3 H locs ls hP hS hl
  exact lv_icmp_eq hx hb hd ht (fun q => k1 r S (by rw [if_pos q] at h1; exact h1) h2 h3 H locs ls hP hS hl) (fun q => k2 r S (by rw [if_neg q] at h1; exact h1) h2 h3 H locs ls hP hS hl)
theorem ze_icmp_ne {α : Type} {G : zGT} {l : Launch} {cc : ByteArray} {own : String} {nL d C N : Nat} {ini : Bool} {T : Option Value × zMem} {enc : α → Option Value} {Λ : zLay} {k n pc : Nat} {L : zLs} {st : List Value} {σ : zMem} {e1 e2 : Option (α × zMem)} (h : zOk G l cc own nL d C N ini) {x y : Int32} {off : Int} (tgt : Nat) (hd : decode cc pc = .ok (.if_icmp .ne off, 3)) (ht : (pc : Int) + off = (tgt : Int)) (k1 : zE G T enc Λ k n tgt L st σ e2) (k2 : zE G T enc Λ k n (pc + 3) L st σ e1) : zE G T enc Λ k n pc L (.int y :: .int x :: st) σ (if x = y then e1 else e2) := by
  obtain ⟨p, e0, R, s, m, args, below, meth, c, D, cA, b, ext, Q, rfl, hx, hb, hml, hown, hts, hK, hfr, hlo, hC, hN, hini, hbs⟩ := h
  intro r S h1 h2 h3 H locs ls hP hS hl
  exact lv_icmp_ne hx hb hd ht (fun q => k1 r S (by rw [if_neg q] at h1; exact h1) h2 h3 H locs ls hP hS hl) (fun q => k2 r S (by rw [if_pos q] at h1; exact h1) h2 h3 H locs ls hP hS hl)
theorem ze_icmp_lt {α : Type} {G : zGT} {l : Launch} {cc : ByteArray} {own : String} {nL d C N : Nat} {ini : Bool} {T : Option Value × zMem} {enc : α → Option Value} {Λ : zLay} {k n pc : Nat} {L : zLs} {st : List Value} {σ : zMem} {e1 e2 : Option (α × zMem)} (h : zOk G l cc own nL d C N ini) {x y : Int32} {off : Int} (tgt : Nat) (hd : decode cc pc = .ok (.if_icmp .lt off, 3)) (ht : (pc : Int) + off = (tgt : Int)) (k1 : zE G T enc Λ k n tgt L st σ e1) (k2 : zE G T enc Λ k n (pc + 3) L st σ e2) : zE G T enc Λ k n pc L (.int y :: .int x :: st) σ (if x < y then e1 else e2) := by
  obtain ⟨p, e0, R, s, m, args, below, meth, c, D, cA, b, ext, Q, rfl, hx, hb, hml, hown, hts, hK, hfr, hlo, hC, hN, hini, hbs⟩ := h
  intro r S h1 h2 h3 H locs ls hP hS hl
  exact lv_icmp_lt hx hb hd ht (fun q => k1 r S (by rw [if_pos q] at h1; exact h1) h2 h3 H locs ls hP hS hl) (fun q => k2 r S (by rw [if_neg q] at h1; exact h1) h2 h3 H locs ls hP hS hl)
theorem ze_icmp_ge {α : Type} {G : zGT} {l : Launch} {cc : ByteArray} {own : String} {nL d C N : Nat} {ini : Bool} {T : Option Value × zMem} {enc : α → Option Value} {Λ : zLay} {k n pc : Nat} {L : zLs} {st : List Value} {σ : zMem} {e1 e2 : Option (α × zMem)} (h : zOk G l cc own nL d C N ini) {x y : Int32} {off : Int} (tgt : Nat) (hd : decode cc pc = .ok (.if_icmp .ge off, 3)) (ht : (pc : Int) + off = (tgt : Int)) (k1 : zE G T enc Λ k n tgt L st σ e1) (k2 : zE G T enc Λ k n (pc + 3) L st σ e2) : zE G T enc Λ k n pc L (.int y :: .int x :: st) σ (if y ≤ x then e1 else e2) := by
  obtain ⟨p, e0, R, s, m, args, below, meth, c, D, cA, b, ext, Q, rfl, hx, hb, hml, hown, hts, hK, hfr, hlo, hC, hN, hini, hbs⟩ := h
  intro r S h1 h2 h3 H locs ls hP hS hl
  exact lv_icmp_ge hx hb hd ht (fun q => k1 r S (by rw [if_pos q] at h1; exact h1) h2 h3 H locs ls hP hS hl) (fun q => k2 r S (by rw [if_neg q] at h1; exact h1) h2 h3 H locs ls hP hS hl)
theorem ze_icmp_gt {α : Type} {G : zGT} {l : Launch} {cc : ByteArray} {own : String} {nL d C N : Nat} {ini : Bool} {T : Option Value × zMem} {enc : α → Option Value} {Λ : zLay} {k n pc : Nat} {L : zLs} {st : List Value} {σ : zMem} {e1 e2 : Option (α × zMem)} (h : zOk G l cc own nL d C N ini) {x y : Int32} {off : Int} (tgt : Nat) (hd : decode cc pc = .ok (.if_icmp .gt off, 3)) (ht : (pc : Int) + off = (tgt : Int)) (k1 : zE G T enc Λ k n tgt L st σ e1) (k2 : zE G T enc Λ k n (pc + 3) L st σ e2) : zE G T enc Λ k n pc L (.int y :: .int x :: st) σ (if y < x then e1 else e2) := by
  obtain ⟨p, e0, R, s, m, args, below, meth, c, D, cA, b, ext, Q, rfl, hx, hb, hml, hown, hts, hK, hfr, hlo, hC, hN, hini, hbs⟩ := h
  intro r S h1 h2 h3 H locs ls hP hS hl
  exact lv_icmp_gt hx hb hd ht (fun q => k1 r S (by rw [if_pos q] at h1; exact h1) h2 h3 H locs ls hP hS hl) (fun q => k2 r S (by rw [if_neg q] at h1; exact h1) h2 h3 H locs ls hP hS hl)
theorem ze_icmp_le {α : Type} {G : zGT} {l : Launch} {cc : ByteArray} {own : String} {nL d C N : Nat} {ini : Bool} {T : Option Value × zMem} {enc : α → Option Value} {Λ : zLay} {k n pc : Nat} {L : zLs} {st : List Value} {σ : zMem} {e1 e2 : Option (α × zMem)} (h : zOk G l cc own nL d C N ini) {x y : Int32} {off : Int} (tgt : Nat) (hd : decode cc pc = .ok (.if_icmp .le off, 3)) (ht : (pc : Int) + off = (tgt : Int)) (k1 : zE G T enc Λ k n tgt L st σ e1) (k2 : zE G T enc Λ k n (pc + 3) L st σ e2) : zE G T enc Λ k n pc L (.int y :: .int x :: st) σ (if x ≤ y then e1 else e2) := by
  obtain ⟨p, e0, R, s, m, args, below, meth, c, D, cA, b, ext, Q, rfl, hx, hb, hml, hown, hts, hK, hfr, hlo, hC, hN, hini, hbs⟩ := h
  intro r S h1 h2 h3 H locs ls hP hS hl
  exact lv_icmp_le hx hb hd ht (fun q => k1 r S (by rw [if_pos q] at h1; exact h1) h2 h3 H locs ls hP hS hl) (fun q => k2 r S (by rw [if_neg q] at h1; exact h1) h2 h3 H locs ls hP hS hl)
theorem ze_if_eq {α : Type} {G : zGT} {l : Launch} {cc : ByteArray} {own : String} {nL d C N : Nat} {ini : Bool} {T : Option Value × zMem} {enc : α → Option Value} {Λ : zLay} {k n pc : Nat} {L : zLs} {st : List Value} {σ : zMem} {e1 e2 : Option (α × zMem)} (h : zOk G l cc own nL d C N ini) {x : Int32} {off : Int} (tgt : Nat) (hd : decode cc pc = .ok (.ifCond .eq off, 3)) (ht : (pc : Int) + off = (tgt : Int)) (k1 : zE G T enc Λ k n tgt L st σ e1) (k2 : zE G T enc Λ k n (pc + 3) L st σ e2) : zE G T enc Λ k n pc L (.int x :: st) σ (if x = 0 then e1 else e2) := by
  obtain ⟨p, e0, R, s, m, args, below, meth, c, D, cA, b, ext, Q, rfl, hx, hb, hml, hown, hts, hK, hfr, hlo, hC, hN, hini, hbs⟩ := h
  intro r S h1 h2 h3 H locs ls hP hS hl
  exact lv_if_eq hx hb hd ht (fun q => k1 r S (by rw [if_pos q] at h1; exact h1) h2 h3 H locs ls hP hS hl) (fun q => k2 r S (by rw [if_neg q] at h1; exact h1) h2 h3 H locs ls hP hS hl)
theorem ze_if_ne {α : Type} {G : zGT} {l : Launch} {cc : ByteArray} {own : String} {nL d C N : Nat} {ini : Bool} {T : Option Value × zMem} {enc : α → Option Value} {Λ : zLay} {k n pc : Nat} {L : zLs} {st : List Value} {σ : zMem} {e1 e2 : Option (α × zMem)} (h : zOk G l cc own nL d C N ini) {x : Int32} {off : Int} (tgt : Nat) (hd : decode cc pc = .ok (.ifCond .ne off, 3)) (ht : (pc : Int) + off = (tgt : Int)) (k1 : zE G T enc Λ k n tgt L st σ e2) (k2 : zE G T enc Λ k n (pc + 3) L st σ e1) : zE G T enc Λ k n pc L (.int x :: st) σ (if x = 0 then e1 else e2) := by
  obtain ⟨p, e0, R, s, m, args, below, meth, c, D, cA, b, ext, Q, rfl, hx, hb, hml, hown, hts, hK, hfr, hlo, hC, hN, hini, hbs⟩ := h
  intro r S h1 h2 h3 H locs ls hP hS hl
  exact lv_if_ne hx hb hd ht (fun q => k1 r S (by rw [if_neg q] at h1; exact h1) h2 h3 H locs ls hP hS hl) (fun q => k2 r S (by rw [if_pos q] at h1; exact h1) h2 h3 H locs ls hP hS hl)
theorem ze_if_lt {α : Type} {G : zGT} {l : Launch} {cc : ByteArray} {own : String} {nL d C N : Nat} {ini : Bool} {T : Option Value × zMem} {enc : α → Option Value} {Λ : zLay} {k n pc : Nat} {L : zLs} {st : List Value} {σ : zMem} {e1 e2 : Option (α × zMem)} (h : zOk G l cc own nL d C N ini) {x : Int32} {off : Int} (tgt : Nat) (hd : decode cc pc = .ok (.ifCond .lt off, 3)) (ht : (pc : Int) + off = (tgt : Int)) (k1 : zE G T enc Λ k n tgt L st σ e1) (k2 : zE G T enc Λ k n (pc + 3) L st σ e2) : zE G T enc Λ k n pc L (.int x :: st) σ (if x < 0 then e1 else e2) := by
  obtain ⟨p, e0, R, s, m, args, below, meth, c, D, cA, b, ext, Q, rfl, hx, hb, hml, hown, hts, hK, hfr, hlo, hC, hN, hini, hbs⟩ := h
  intro r S h1 h2 h3 H locs ls hP hS hl
  exact lv_if_lt hx hb hd ht (fun q => k1 r S (by rw [if_pos q] at h1; exact h1) h2 h3 H locs ls hP hS hl) (fun q => k2 r S (by rw [if_neg q] at h1; exact h1) h2 h3 H locs ls hP hS hl)
theorem ze_if_ge {α : Type} {G : zGT} {l : Launch} {cc : ByteArray} {own : String} {nL d C N : Nat} {ini : Bool} {T : Option Value × zMem} {enc : α → Option Value} {Λ : zLay} {k n pc : Nat} {L : zLs} {st : List Value} {σ : zMem} {e1 e2 : Option (α × zMem)} (h : zOk G l cc own nL d C N ini) {x : Int32} {off : Int} (tgt : Nat) (hd : decode cc pc = .ok (.ifCond .ge off, 3)) (ht : (pc : Int) + off = (tgt : Int)) (k1 : zE G T enc Λ k n tgt L st σ e1) (k2 : zE G T enc Λ k n (pc + 3) L st σ e2) : zE G T enc Λ k n pc L (.int x :: st) σ (if 0 ≤ x then e1 else e2) := by
  obtain ⟨p, e0, R, s, m, args, below, meth, c, D, cA, b, ext, Q, rfl, hx, hb, hml, hown, hts, hK, hfr, hlo, hC, hN, hini, hbs⟩ := h
  intro r S h1 h2 h3 H locs ls hP hS hl
  exact lv_if_ge hx hb hd ht (fun q => k1 r S (by rw [if_pos q] at h1; exact h1) h2 h3 H locs ls hP hS hl) (fun q => k2 r S (by rw [if_neg q] at h1; exact h1) h2 h3 H locs ls hP hS hl)
theorem ze_if_gt {α : Type} {G : zGT} {l : Launch} {cc : ByteArray} {own : String} {nL d C N : Nat} {ini : Bool} {T : Option Value × zMem} {enc : α → Option Value} {Λ : zLay} {k n pc : Nat} {L : zLs} {st : List Value} {σ : zMem} {e1 e2 : Option (α × zMem)} (h : zOk G l cc own nL d C N ini) {x : Int32} {off : Int} (tgt : Nat) (hd : decode cc pc = .ok (.ifCond .gt off, 3)) (ht : (pc : Int) + off = (tgt : Int)) (k1 : zE G T enc Λ k n tgt L st σ e1) (k2 : zE G T enc Λ k n (pc + 3) L st σ e2) : zE G T enc Λ k n pc L (.int x :: st) σ (if 0 < x then e1 else e2) := by
  obtain ⟨p, e0, R, s, m, args, below, meth, c, D, cA, b, ext, Q, rfl, hx, hb, hml, hown, hts, hK, hfr, hlo, hC, hN, hini, hbs⟩ := h
  intro r S h1 h2 h3 H locs ls hP hS hl
  exact lv_if_gt hx hb hd ht (fun q => k1 r S (by rw [if_pos q] at h1; exact h1) h2 h3 H locs ls hP hS hl) (fun q => k2 r S (by rw [if_neg q] at h1; exact h1) h2 h3 H locs ls hP hS hl)
theorem ze_if_le {α : Type} {G : zGT} {l : Launch} {cc : ByteArray} {own : String} {nL d C N : Nat} {ini : Bool} {T : Option Value × zMem} {enc : α → Option Value} {Λ : zLay} {k n pc : Nat} {L : zLs} {st : List Value} {σ : zMem} {e1 e2 : Option (α × zMem)} (h : zOk G l cc own nL d C N ini) {x : Int32} {off : Int} (tgt : Nat) (hd : decode cc pc = .ok (.ifCond .le off, 3)) (ht : (pc : Int) + off = (tgt : Int)) (k1 : zE G T enc Λ k n tgt L st σ e1) (k2 : zE G T enc Λ k n (pc + 3) L st σ e2) : zE G T enc Λ k n pc L (.int x :: st) σ (if x ≤ 0 then e1 else e2) := by
  obtain ⟨p, e0, R, s, m, args, below, meth, c, D, cA, b, ext, Q, rfl, hx, hb, hml, hown, hts, hK, hfr, hlo, hC, hN, hini, hbs⟩ := h
  intro r S h1 h2 h3 H locs ls hP hS hl
  exact lv_if_le hx hb hd ht (fun q => k1 r S (by rw [if_pos q] at h1; exact h1) h2 h3 H locs ls hP hS hl) (fun q => k2 r S (by rw [if_neg q] at h1; exact h1) h2 h3 H locs ls hP hS hl)
theorem ze_if_eqT {α : Type} {G : zGT} {l : Launch} {cc : ByteArray} {own : String} {nL d C N : Nat} {ini : Bool} {T : Option Value × zMem} {enc : α → Option Value} {Λ : zLay} {k n pc : Nat} {L : zLs} {st : List Value} {σ : zMem} {e : Option (α × zMem)} (h : zOk G l cc own nL d C N ini) {x : Int32} {off : Int} (tgt : Nat) (hd : decode cc pc = .ok (.ifCond .eq off, 3)) (ht : (pc : Int) + off = (tgt : Int)) (hq : x = 0) (kk : zE G T enc Λ k n tgt L st σ e) : zE G T enc Λ k n pc L (.int x :: st) σ e := by
  obtain ⟨p, e0, R, s, m, args, below, meth, c, D, cA, b, ext, Q, rfl, hx, hb, hml, hown, hts, hK, hfr, hlo, hC, hN, hini, hbs⟩ := h
  intro r S h1 h2 h3 H locs ls hP hS hl
  exact lv_if_eq hx hb hd ht (fun _ => kk r S h1 h2 h3 H locs ls hP hS hl) (fun z => absurd hq z)
theorem ze_if_eqF {α : Type} {G : zGT} {l : Launch} {cc : ByteArray} {own : String} {nL d C N : Nat} {ini : Bool} {T : Option Value × zMem} {enc : α → Option Value} {Λ : zLay} {k n pc : Nat} {L : zLs} {st : List Value} {σ : zMem} {e : Option (α × zMem)} (h : zOk G l cc own nL d C N ini) {x : Int32} {off : Int} (tgt : Nat) (hd : decode cc pc = .ok (.ifCond .eq off, 3)) (ht : (pc : Int) + off = (tgt : Int)) (hq : ¬ x = 0) (kk : zE G T enc Λ k n (pc + 3) L st σ e) : zE G T enc Λ k n pc L (.int x :: st) σ e := by
  obtain ⟨p, e0, R, s, m, args, below, meth, c, D, cA, b, ext, Q, rfl, hx, hb, hml, hown, hts, hK, hfr, hlo, hC, hN, hini, hbs⟩ := h
  intro r S h1 h2 h3 H locs ls hP hS hl
  exact lv_if_eq hx hb hd ht (fun z => absurd z hq) (fun _ => kk r S h1 h2 h3 H locs ls hP hS hl)
theorem ze_if_neT {α : Type} {G : zGT} {l : Launch} {cc : ByteArray} {own : String} {nL d C N : Nat} {ini : Bool} {T : Option Value × zMem} {enc : α → Option Value} {Λ : zLay} {k n pc : Nat} {L : zLs} {st : List Value} {σ : zMem} {e : Option (α × zMem)} (h : zOk G l cc own nL d C N ini) {x : Int32} {off : Int} (tgt : Nat) (hd : decode cc pc = .ok (.ifCond .ne off, 3)) (ht : (pc : Int) + off = (tgt : Int)) (hq : ¬ x = 0) (kk : zE G T enc Λ k n tgt L st σ e) : zE G T enc Λ k n pc L (.int x :: st) σ e := by
  obtain ⟨p, e0, R, s, m, args, below, meth, c, D, cA, b, ext, Q, rfl, hx, hb, hml, hown, hts, hK, hfr, hlo, hC, hN, hini, hbs⟩ := h
  intro r S h1 h2 h3 H locs ls hP hS hl
  exact lv_if_ne hx hb hd ht (fun _ => kk r S h1 h2 h3 H locs ls hP hS hl) (fun z => absurd z hq)
theorem ze_if_neF {α : Type} {G : zGT} {l : Launch} {cc : ByteArray} {own : String} {nL d C N : Nat} {ini : Bool} {T : Option Value × zMem} {enc : α → Option Value} {Λ : zLay} {k n pc : Nat} {L : zLs} {st : List Value} {σ : zMem} {e : Option (α × zMem)} (h : zOk G l cc own nL d C N ini) {x : Int32} {off : Int} (tgt : Nat) (hd : decode cc pc = .ok (.ifCond .ne off, 3)) (ht : (pc : Int) + off = (tgt : Int)) (hq : x = 0) (kk : zE G T enc Λ k n (pc + 3) L st σ e) : zE G T enc Λ k n pc L (.int x :: st) σ e := by
  obtain ⟨p, e0, R, s, m, args, below, meth, c, D, cA, b, ext, Q, rfl, hx, hb, hml, hown, hts, hK, hfr, hlo, hC, hN, hini, hbs⟩ := h
  intro r S h1 h2 h3 H locs ls hP hS hl
  exact lv_if_ne hx hb hd ht (fun z => absurd hq z) (fun _ => kk r S h1 h2 h3 H locs ls hP hS hl)
theorem ze_case {α : Type} {G : zGT} {T : Option Value × zMem} {enc : α → Option Value} {Λ : zLay} {k n pc : Nat} {L : zLs} {st : List Value} {σ : zMem} {e1 e2 : Option (α × zMem)} {x : Int32} (v : Int32) (k1 : x = v → zE G T enc Λ k n pc L (.int v :: st) σ e1) (k2 : ¬ x = v → zE G T enc Λ k n pc L (.int x :: st) σ e2) : zE G T enc Λ k n pc L (.int x :: st) σ (if x = v then e1 else e2) := by
  intro r S h1 h2 h3
  by_cases q : x = v
  · rw [if_pos q] at h1
    have := k1 q r S h1 h2 h3
    rw [q]
    exact this
  · rw [if_neg q] at h1
    exact k2 q r S h1 h2 h3
theorem ze_tabIn {α : Type} {G : zGT} {l : Launch} {cc : ByteArray} {own : String} {nL d C N : Nat} {ini : Bool} {T : Option Value × zMem} {enc : α → Option Value} {Λ : zLay} {k n pc : Nat} {L : zLs} {st : List Value} {σ : zMem} {e : Option (α × zMem)} (h : zOk G l cc own nL d C N ini) {x : Int32} {dflt lo hi off : Int} {offs : Array Int} {len : Nat} (tgt : Nat) (hd : decode cc pc = .ok (.tableswitch dflt lo hi offs, len)) (w1 : ¬ x.toInt < lo) (w2 : ¬ hi < x.toInt) (ho : offs[(x.toInt - lo).toNat]? = some off) (ht : (pc : Int) + off = (tgt : Int)) (kk : zE G T enc Λ k n tgt L st σ e) : zE G T enc Λ k n pc L (.int x :: st) σ e := by
  obtain ⟨p, e0, R, s, m, args, below, meth, c, D, cA, b, ext, Q, rfl, hx, hb, hml, hown, hts, hK, hfr, hlo, hC, hN, hini, hbs⟩ := h
  intro r S h1 h2 h3 H locs ls hP hS hl
  exact lv_tableIn hx hb hd w1 w2 ho ht (kk r S h1 h2 h3 H locs ls hP hS hl)
theorem ze_tabOut {α : Type} {G : zGT} {l : Launch} {cc : ByteArray} {own : String} {nL d C N : Nat} {ini : Bool} {T : Option Value × zMem} {enc : α → Option Value} {Λ : zLay} {k n pc : Nat} {L : zLs} {st : List Value} {σ : zMem} {e : Option (α × zMem)} (h : zOk G l cc own nL d C N ini) {x : Int32} {dflt lo hi : Int} {offs : Array Int} {len : Nat} (tgt : Nat) (hd : decode cc pc = .ok (.tableswitch dflt lo hi offs, len)) (w : x.toInt < lo ∨ hi < x.toInt) (ht : (pc : Int) + dflt = (tgt : Int)) (kk : zE G T enc Λ k n tgt L st σ e) : zE G T enc Λ k n pc L (.int x :: st) σ e := by
  obtain ⟨p, e0, R, s, m, args, below, meth, c, D, cA, b, ext, Q, rfl, hx, hb, hml, hown, hts, hK, hfr, hlo, hC, hN, hini, hbs⟩ := h
  intro r S h1 h2 h3 H locs ls hP hS hl
  exact lv_tableOut hx hb hd w ht (kk r S h1 h2 h3 H locs ls hP hS hl)
theorem ze_lookup {α : Type} {G : zGT} {l : Launch} {cc : ByteArray} {own : String} {nL d C N : Nat} {ini : Bool} {T : Option Value × zMem} {enc : α → Option Value} {Λ : zLay} {k n pc : Nat} {L : zLs} {st : List Value} {σ : zMem} {e : Option (α × zMem)} (h : zOk G l cc own nL d C N ini) {x : Int32} {dflt off : Int} {ps : Array (Int × Int)} {len : Nat} (tgt : Nat) (hd : decode cc pc = .ok (.lookupswitch dflt ps, len)) (hp : (ps.toList.zip (ps.toList.drop 1)).all (fun (a, next) => a.1 < next.1) = true) (ho : Op.lookupswitch.offset ps.toList dflt x.toInt = off) (ht : (pc : Int) + off = (tgt : Int)) (kk : zE G T enc Λ k n tgt L st σ e) : zE G T enc Λ k n pc L (.int x :: st) σ e := by
  obtain ⟨p, e0, R, s, m, args, below, meth, c, D, cA, b, ext, Q, rfl, hx, hb, hml, hown, hts, hK, hfr, hlo, hC, hN, hini, hbs⟩ := h
  intro r S h1 h2 h3 H locs ls hP hS hl
  exact lv_lookup hx hb hd hp ho ht (kk r S h1 h2 h3 H locs ls hP hS hl)
theorem ze_nm {α β : Type} {G : zGT} {T : Option Value × zMem} {enc : α → Option Value} {Λ : zLay} {k n pc : Nat} {L : zLs} {st : List Value} {σ : zMem} {e : β → Option (α × zMem)} {v : β} (g : β → zMem × zLs × List Value) (hg : g v = (σ, L, st)) (kk : ∀ x : β, zE G T enc Λ k n pc (g x).2.1 (g x).2.2 (g x).1 (e x)) : zE G T enc Λ k n pc L st σ (nm v e) := by
  have := kk v
  rw [hg] at this
  exact this
theorem ze_nmS {α : Type} {G : zGT} {T : Option Value × zMem} {enc : α → Option Value} {Λ : zLay} {k n pc : Nat} {L : zLs} {st : List Value} {σ : zMem} {e : zMem → Option (α × zMem)} (kk : ∀ s : zMem, zE G T enc Λ k n pc L st s (e s)) : zE G T enc Λ k n pc L st σ (nm σ e) := kk σ
theorem ze_nmT {α β : Type} {G : zGT} {T : Option Value × zMem} {enc : α → Option Value} {Λ : zLay} {k n pc : Nat} {L : zLs} {st : List Value} {σ : zMem} {e : β → Option (α × zMem)} {v : β} (w : β → Value) (kk : ∀ x : β, zE G T enc Λ k n pc L (w x :: st) σ (e x)) : zE G T enc Λ k n pc L (w v :: st) σ (nm v e) := kk v
theorem ze_nmI {α : Type} {G : zGT} {T : Option Value × zMem} {enc : α → Option Value} {Λ : zLay} {k n pc : Nat} {L : zLs} {st : List Value} {σ : zMem} {e : Int32 → Option (α × zMem)} {v : Int32} (kk : ∀ x : Int32, zE G T enc Λ k n pc L (.int x :: st) σ (e x)) : zE G T enc Λ k n pc L (.int v :: st) σ (nm v e) := kk v
theorem ze_nmL {α : Type} {G : zGT} {T : Option Value × zMem} {enc : α → Option Value} {Λ : zLay} {k n pc : Nat} {L : zLs} {st : List Value} {σ : zMem} {e : Int64 → Option (α × zMem)} {v : Int64} (kk : ∀ x : Int64, zE G T enc Λ k n pc L (.long x :: st) σ (e x)) : zE G T enc Λ k n pc L (.long v :: st) σ (nm v e) := kk v
theorem ze_iret {G : zGT} {T : Option Value × zMem} {cc : ByteArray} {Λ : zLay} {k n pc : Nat} {L : zLs} {σ : zMem} {x : Int32} (hR : zR G cc (some .int) T Λ k n) (hd : decode cc pc = .ok (.ireturn, 1)) : zE G T (fun r : Int32 => some (.int r)) Λ k n pc L [.int x] σ (some (x, σ)) := by
  intro r S h1 h2 h3
  cases h1
  rw [h3]
  exact hR.1 pc L x .int hd rfl rfl h2.symm
theorem ze_zret {G : zGT} {T : Option Value × zMem} {cc : ByteArray} {Λ : zLay} {k n pc : Nat} {L : zLs} {σ : zMem} {x : Int32} {ty : FieldType} (hR : zR G cc (some ty) T Λ k n) (hn : narrow ty (.int x) = .int x) (hd : decode cc pc = .ok (.ireturn, 1)) : zE G T (fun r : Int32 => some (.int r)) Λ k n pc L [.int x] σ (some (x, σ)) := by
  intro r S h1 h2 h3
  cases h1
  rw [h3]
  exact hR.1 pc L x ty hd rfl hn h2.symm
def z01 (x : Int32) : Bool := decide (x = 0) || decide (x = 1)
theorem z01_nar {x : Int32} (h : z01 x = true) : narrow .boolean (.int x) = .int x := by
  simp only [z01, Bool.or_eq_true, decide_eq_true_eq] at h
  rcases h with h | h <;> subst h <;> rfl
theorem ze_zretG {G : zGT} {T : Option Value × zMem} {cc : ByteArray} {Λ : zLay} {k n pc : Nat} {L : zLs} {σ : zMem} {x : Int32} (hR : zR G cc (some .boolean) T Λ k n) (hd : decode cc pc = .ok (.ireturn, 1)) : zE G T (fun r : Int32 => some (.int r)) Λ k n pc L [.int x] σ (gd (z01 x) (some (x, σ))) := fun r S h1 h2 h3 => ze_zret hR (z01_nar (zgd h1).1) hd r S (zgd h1).2 h2 h3
def zNr (ty : FieldType) (x : Int32) : Bool := narrow ty (.int x) == .int x
theorem ze_lret {G : zGT} {T : Option Value × zMem} {cc : ByteArray} {Λ : zLay} {k n pc : Nat} {L : zLs} {σ : zMem} {x : Int64} (hR : zR G cc (some .long) T Λ k n) (hd : decode cc pc = .ok (.lreturn, 1)) : zE G T (fun r : Int64 => some (.long r)) Λ k n pc L [.long x] σ (some (x, σ)) := by
  intro r S h1 h2 h3
  cases h1
  rw [h3]
  exact hR.2.1 pc L x hd rfl h2.symm
theorem ze_vret {G : zGT} {T : Option Value × zMem} {cc : ByteArray} {Λ : zLay} {k n pc : Nat} {L : zLs} {σ : zMem} (hR : zR G cc none T Λ k n) (hd : decode cc pc = .ok (.return_, 1)) : zE G T (fun _ : Unit => none) Λ k n pc L [] σ (some ((), σ)) := by
  intro r S h1 h2 h3
  cases h1
  rw [h3]
  exact hR.2.2.1 pc L hd rfl h2.symm
theorem ze_aret {G : zGT} {T : Option Value × zMem} {cc : ByteArray} {Λ : zLay} {k n pc : Nat} {L : zLs} {σ : zMem} {x : Nat} {nm9 : String} (hR : zR G cc (some (.object nm9)) T Λ k n) (hd : decode cc pc = .ok (.areturn, 1)) : zE G T (fun r : Nat => some (.ref r)) Λ k n pc L [.ref x] σ (some (x, σ)) := by
  intro r S h1 h2 h3
  cases h1
  rw [h3]
  exact hR.2.2.2 pc L x nm9 hd rfl h2.symm
theorem ze_ldc {α : Type} {G : zGT} {l : Launch} {cc : ByteArray} {own : String} {nL d C N : Nat} {ini : Bool} {T : Option Value × zMem} {enc : α → Option Value} {Λ : zLay} {k n pc : Nat} {L : zLs} {st : List Value} {σ : zMem} {e : Option (α × zMem)} (h : zOk G l cc own nL d C N ini) {q : Nat} {v : Int32} (hw : Cond.constant own q v ∈ zW) (hd : decode cc pc = .ok (.ldc q, 2)) (kk : zE G T enc Λ k n (pc + 2) L (.int v :: st) σ e) : zE G T enc Λ k n pc L st σ e := by
  obtain ⟨p, e0, R, s, m, args, below, meth, c, D, cA, b, ext, Q, rfl, hx, hb, hml, hown, hts, hK, hfr, hlo, hC, hN, hini, hbs⟩ := h
  intro r S h1 h2 h3 H locs ls hP hS hl
  exact lv_ldc hx hb hown (hts _ hw) hd (kk r S h1 h2 h3 H locs ls hP hS hl)
theorem ze_ldcw {α : Type} {G : zGT} {l : Launch} {cc : ByteArray} {own : String} {nL d C N : Nat} {ini : Bool} {T : Option Value × zMem} {enc : α → Option Value} {Λ : zLay} {k n pc : Nat} {L : zLs} {st : List Value} {σ : zMem} {e : Option (α × zMem)} (h : zOk G l cc own nL d C N ini) {q : Nat} {v : Int32} (hw : Cond.constant own q v ∈ zW) (hd : decode cc pc = .ok (.ldc_w q, 3)) (kk : zE G T enc Λ k n (pc + 3) L (.int v :: st) σ e) : zE G T enc Λ k n pc L st σ e := by
  obtain ⟨p, e0, R, s, m, args, below, meth, c, D, cA, b, ext, Q, rfl, hx, hb, hml, hown, hts, hK, hfr, hlo, hC, hN, hini, hbs⟩ := h
  intro r S h1 h2 h3 H locs ls hP hS hl
  exact lv_ldcw hx hb hown (hts _ hw) hd (kk r S h1 h2 h3 H locs ls hP hS hl)
theorem ze_ldc2 {α : Type} {G : zGT} {l : Launch} {cc : ByteArray} {own : String} {nL d C N : Nat} {ini : Bool} {T : Option Value × zMem} {enc : α → Option Value} {Λ : zLay} {k n pc : Nat} {L : zLs} {st : List Value} {σ : zMem} {e : Option (α × zMem)} (h : zOk G l cc own nL d C N ini) {q : Nat} {v : Int64} (hw : Cond.constantLong own q v ∈ zW) (hd : decode cc pc = .ok (.ldc2_w q, 3)) (kk : zE G T enc Λ k n (pc + 3) L (.long v :: st) σ e) : zE G T enc Λ k n pc L st σ e := by
  obtain ⟨p, e0, R, s, m, args, below, meth, c, D, cA, b, ext, Q, rfl, hx, hb, hml, hown, hts, hK, hfr, hlo, hC, hN, hini, hbs⟩ := h
  intro r S h1 h2 h3 H locs ls hP hS hl
  exact lv_ldc2 hx hb hown (hts _ hw) hd (kk r S h1 h2 h3 H locs ls hP hS hl)
def zFld (own : String) (idx ci kf : Nat) (fin : Bool) (ty : FieldType) : Prop := ∃ (C : String) (T : u_T) (N : Nat) (tys : Nat → FieldType), vwCl[ci]? = some (C, T, N) ∧ kf < N ∧ Cond.fieldLink own idx (T kf).1 (T kf).2.1 (T kf).2.2.1 ∈ zW ∧ (∀ w ∈ u_ws C T N, w ∈ zW) ∧ (∀ k, k < N → parseFieldDescriptor (T k).2.2.1 = some (tys k)) ∧ (∀ a, a < N → ∀ b, b < N → a ≠ b → (T a).2.1 ≠ (T b).2.1) ∧ (T kf).2.2.2 = fin ∧ tys kf = ty
theorem ze_getI {α : Type} {G : zGT} {l : Launch} {cc : ByteArray} {own : String} {nL d C N : Nat} {ini : Bool} {T : Option Value × zMem} {enc : α → Option Value} {Λ : zLay} {k n pc : Nat} {L : zLs} {st : List Value} {σ : zMem} {e : Option (α × zMem)} (h : zOk G l cc own nL d C N ini) {a ci kf idx : Nat} {fs : List (Option (Option Nat))} {fin : Bool} {ty : FieldType} (h9 : Λ[a]? = some (.inr (ci, fs))) (h8 : fs[kf]? = some none) (hf : zFld own idx ci kf fin ty) (hd : decode cc pc = .ok (.getfield idx, 3)) (kk : zE G T enc Λ k n (pc + 3) L (.int (σ a kf) :: st) σ e) : zE G T enc Λ k n pc L (.ref a :: st) σ e := by
  obtain ⟨p, e0, R, s, m, args, below, meth, c, D, cA, b, ext, Q, rfl, hx, hb, hml, hown, hts, hK, hfr, hlo, hC, hN, hini, hbs⟩ := h
  intro r S h1 h2 h3 H locs ls hP hS hl
  obtain ⟨C9, T9, N9, tys, f1, f2, f3, f4, f5, f6, f7, f8⟩ := hf
  have h7 := zFs_get (zcv b ext) (σ a) fs 0 kf _ h8
  rw [Nat.zero_add] at h7
  exact va_get (D := D) (ci := ci) hx hb hts f4 hown hK.1 hP.1 a (zWs_at h9) f1 kf f2 (hts _ f3) (fun _ z => z) h7 hd (kk r S h1 h2 h3 H locs ls hP hS hl)
theorem ze_getR {α : Type} {G : zGT} {l : Launch} {cc : ByteArray} {own : String} {nL d C N : Nat} {ini : Bool} {T : Option Value × zMem} {enc : α → Option Value} {Λ : zLay} {k n pc : Nat} {L : zLs} {st : List Value} {σ : zMem} {e : Option (α × zMem)} (h : zOk G l cc own nL d C N ini) {a ci kf idx q : Nat} {fs : List (Option (Option Nat))} {fin : Bool} {ty : FieldType} (h9 : Λ[a]? = some (.inr (ci, fs))) (h8 : fs[kf]? = some (some (some q))) (hf : zFld own idx ci kf fin ty) (hd : decode cc pc = .ok (.getfield idx, 3)) (kk : zE G T enc Λ k n (pc + 3) L (.ref q :: st) σ e) : zE G T enc Λ k n pc L (.ref a :: st) σ e := by
  obtain ⟨p, e0, R, s, m, args, below, meth, c, D, cA, b, ext, Q, rfl, hx, hb, hml, hown, hts, hK, hfr, hlo, hC, hN, hini, hbs⟩ := h
  intro r S h1 h2 h3 H locs ls hP hS hl
  obtain ⟨C9, T9, N9, tys, f1, f2, f3, f4, f5, f6, f7, f8⟩ := hf
  have h7 := zFs_get (zcv b ext) (σ a) fs 0 kf _ h8
  rw [Nat.zero_add] at h7
  exact va_get (D := D) (ci := ci) hx hb hts f4 hown hK.1 hP.1 a (zWs_at h9) f1 kf f2 (hts _ f3) (fun _ z => z) h7 hd (kk r S h1 h2 h3 H locs ls hP hS hl)
theorem ze_putI {α : Type} {G : zGT} {l : Launch} {cc : ByteArray} {own : String} {nL d C N : Nat} {ini : Bool} {T : Option Value × zMem} {enc : α → Option Value} {Λ : zLay} {k n pc : Nat} {L : zLs} {st : List Value} {σ : zMem} {e : Option (α × zMem)} (h : zOk G l cc own nL d C N ini) {a ci kf idx : Nat} {fs : List (Option (Option Nat))} {ty : FieldType} {x : Int32} (h9 : Λ[a]? = some (.inr (ci, fs))) (h8 : fs[kf]? = some none) (hf : zFld own idx ci kf false ty) (hn : narrow ty (.int x) = .int x) (hfit : fits ty (.int x) = true) (hd : decode cc pc = .ok (.putfield idx, 3)) (kk : zE G T enc Λ k n (pc + 3) L st (zUp σ a kf x) e) : zE G T enc Λ k n pc L (.int x :: .ref a :: st) σ e := by
  obtain ⟨p, e0, R, s, m, args, below, meth, c, D, cA, b, ext, Q, rfl, hx, hb, hml, hown, hts, hK, hfr, hlo, hC, hN, hini, hbs⟩ := h
  intro r S h1 h2 h3 H locs ls hP hS hl
  obtain ⟨C9, T9, N9, tys, f1, f2, f3, f4, f5, f6, f7, f8⟩ := hf
  have hap := va_apart (own := own) hts f4 tys f5 f6 hK.1 f1
  have hat := hP.1 a _ (zWs_at h9)
  obtain ⟨r9, g1, cell, q1, q2, q3, q4⟩ := hat
  have hr : r9 = (C9, T9, N9) := Option.some.inj (g1.symm.trans f1)
  subst hr
  obtain ⟨hSl, hfc, kC, hkC, hkind⟩ := hK.1.1 ci _ f1
  obtain ⟨cf, kf2, fi, f, hi9, hsl⟩ := hSl kf f2
  have hlay := hts _ (f4 _ (u_in_lay f2))
  unfold u_lay at hlay
  rw [if_neg (by rw [f7]; decide)] at hlay
  have hst := (u_facts hfc hkC (u_lays hts f4 f2) hi9).1
  have hd5 := f5 kf f2
  rw [f8] at hd5
  have h6 := u_store hfc hkC hkind hlay hi9 hd5 hn hfit
  refine W.putK hx hb (f := f) ⟨hown, hts _ f3, ⟨_, _, _, hi9⟩, hst⟩ (by rw [q2]; exact h6) q1 q3 (by rw [hsl]; exact k2_hasslot (q4 kf f2)) rfl rfl hd fun H' e1 e2 e3 => ?_
  rw [hsl] at e1 ⊢
  have ha : a < Λ.length := (List.getElem?_eq_some_iff.mp h9).1
  have hlen : kf < (zFs (zcv b ext) (σ a) 0 fs).length := by rw [zFs_len]; exact (List.getElem?_eq_some_iff.mp h8).1
  have e9 := t_OB.to (V' := vp_V ((zFs (zcv b ext) (σ a) 0 fs).set kf (zV (zcv b ext) (.int x)))) (V := updV (vp_V (zFs (zcv b ext) (σ a) 0 fs)) kf (zV (zcv b ext) (.int x))) ⟨_, e1, q2, q3, t_set q4 hap f2 _⟩ (fun j _ => vp_updV_set hlen _ j)
  have hP1 := hP.1.set hP.D (zWs_at h9) (e := .inr (ci, (zFs (zcv b ext) (σ a) 0 fs).set kf (zV (zcv b ext) (.int x)))) ⟨_, f1, e9⟩ e3
  refine kk r S h1 h2 h3 H' _ ls ⟨?_, by rw [e2, hP.2.1], hP.2.2⟩ (hS.put e2 e3 (hP.D.2 a _ (zWs_at h9))) hl
  have e5 : (zFs (zcv b ext) (σ a) 0 fs).set kf (zV (zcv b ext) (.int x)) = zFs (zcv b ext) (upd (σ a) kf x) 0 fs := by
    have := zFs_setI (zcv b ext) (σ a) x fs 0 kf h8
    rw [Nat.zero_add] at this
    exact this
  rw [e5] at hP1
  have e6 := zWs_set0 (cv := zcv b ext) (cA := cA) (σ := σ) (τ := zUp σ a kf x) (e' := .inr (ci, fs)) ha (fun _ hx9 => zUp_ne hx9)
  rw [zset_same Λ a _ h9, zUp_self] at e6
  rw [← e6]
  exact hP1
theorem ze_putIF {α : Type} {G : zGT} {l : Launch} {cc : ByteArray} {own : String} {nL d C N : Nat} {ini : Bool} {T : Option Value × zMem} {enc : α → Option Value} {Λ : zLay} {k n pc : Nat} {L : zLs} {st : List Value} {σ : zMem} {e : Option (α × zMem)} (h : zOk G l cc own nL d C N ini) {a ci kf idx : Nat} {fs : List (Option (Option Nat))} {ty : FieldType} {x : Int32} (h9 : Λ[a]? = some (.inr (ci, fs))) (h8 : fs[kf]? = some none) (hf : zFld own idx ci kf true ty) (hi : ini = true) (ho : ∀ q9, vwCl[ci]? = some q9 → (q9.2.1 kf).1 = own) (hn : narrow ty (.int x) = .int x) (hfit : fits ty (.int x) = true) (hd : decode cc pc = .ok (.putfield idx, 3)) (kk : zE G T enc Λ k n (pc + 3) L st (zUp σ a kf x) e) : zE G T enc Λ k n pc L (.int x :: .ref a :: st) σ e := by
  obtain ⟨p, e0, R, s, m, args, below, meth, c, D, cA, b, ext, Q, rfl, hx, hb, hml, hown, hts, hK, hfr, hlo, hC, hN, hini, hbs⟩ := h
  intro r S h1 h2 h3 H locs ls hP hS hl
  obtain ⟨C9, T9, N9, tys, f1, f2, f3, f4, f5, f6, f7, f8⟩ := hf
  have hap := va_apart (own := own) hts f4 tys f5 f6 hK.1 f1
  have hat := hP.1 a _ (zWs_at h9)
  obtain ⟨r9, g1, cell, q1, q2, q3, q4⟩ := hat
  have hr : r9 = (C9, T9, N9) := Option.some.inj (g1.symm.trans f1)
  subst hr
  obtain ⟨hSl, hfc, kC, hkC, hkind⟩ := hK.1.1 ci _ f1
  obtain ⟨cf, kf2, fi, f, hi9, hsl⟩ := hSl kf f2
  have hlay := hts _ (f4 _ (u_in_lay f2))
  unfold u_lay at hlay
  rw [if_pos f7] at hlay
  have hst := (u_facts hfc hkC (u_lays hts f4 f2) hi9).1
  have hd5 := f5 kf f2
  rw [f8] at hd5
  have hcf : m.cls = cf := by
    obtain ⟨_, _, c', _, _, _, -, -, hf', -, -, -, hown2, -⟩ := Cond.laysFinal_spec hlay
    have e1 : c' = cf := by have := hi9.symm.trans hf'; simp at this; exact this.1.symm
    rw [ho _ f1] at hown2
    rw [← e1]; exact Option.some.inj (hown.symm.trans hown2)
  have h6 := u_fits hfc hkC hkind (Or.inr hlay) hi9 hd5 hn hfit
  refine W.putFinK hx hb hown (hts _ f3) hi9 hst hcf (hini hi) (by rw [q2]; exact h6) q1 q3 (by rw [hsl]; exact k2_hasslot (q4 kf f2)) rfl rfl hd fun H' e1 e2 e3 => ?_
  rw [hsl] at e1 ⊢
  have ha : a < Λ.length := (List.getElem?_eq_some_iff.mp h9).1
  have hlen : kf < (zFs (zcv b ext) (σ a) 0 fs).length := by rw [zFs_len]; exact (List.getElem?_eq_some_iff.mp h8).1
  have e9 := t_OB.to (V' := vp_V ((zFs (zcv b ext) (σ a) 0 fs).set kf (zV (zcv b ext) (.int x)))) (V := updV (vp_V (zFs (zcv b ext) (σ a) 0 fs)) kf (zV (zcv b ext) (.int x))) ⟨_, e1, q2, q3, t_set q4 hap f2 _⟩ (fun j _ => vp_updV_set hlen _ j)
  have hP1 := hP.1.set hP.D (zWs_at h9) (e := .inr (ci, (zFs (zcv b ext) (σ a) 0 fs).set kf (zV (zcv b ext) (.int x)))) ⟨_, f1, e9⟩ e3
  refine kk r S h1 h2 h3 H' _ ls ⟨?_, by rw [e2, hP.2.1], hP.2.2⟩ (hS.put e2 e3 (hP.D.2 a _ (zWs_at h9))) hl
  have e5 : (zFs (zcv b ext) (σ a) 0 fs).set kf (zV (zcv b ext) (.int x)) = zFs (zcv b ext) (upd (σ a) kf x) 0 fs := by
    have := zFs_setI (zcv b ext) (σ a) x fs 0 kf h8
    rw [Nat.zero_add] at this
    exact this
  rw [e5] at hP1
  have e6 := zWs_set0 (cv := zcv b ext) (cA := cA) (σ := σ) (τ := zUp σ a kf x) (e' := .inr (ci, fs)) ha (fun _ hx9 => zUp_ne hx9)
  rw [zset_same Λ a _ h9, zUp_self] at e6
  rw [← e6]
  exact hP1
theorem ze_putR {α : Type} {G : zGT} {l : Launch} {cc : ByteArray} {own : String} {nL d C N : Nat} {ini : Bool} {T : Option Value × zMem} {enc : α → Option Value} {Λ : zLay} {k n pc : Nat} {L : zLs} {st : List Value} {σ : zMem} {e : Option (α × zMem)} (h : zOk G l cc own nL d C N ini) {a ci kf idx q : Nat} {fs : List (Option (Option Nat))} {ty : FieldType} (h9 : Λ[a]? = some (.inr (ci, fs))) (h8 : kf < fs.length) (hf : zFld own idx ci kf false ty) (hn : ∀ z : Nat, narrow ty (.ref z) = .ref z) (hfit : ∀ z : Nat, fits ty (.ref z) = true) (hd : decode cc pc = .ok (.putfield idx, 3)) (kk : zE G T enc (Λ.set a (.inr (ci, fs.set kf (some (some q))))) k n (pc + 3) L st σ e) : zE G T enc Λ k n pc L (.ref q :: .ref a :: st) σ e := by
  obtain ⟨p, e0, R, s, m, args, below, meth, c, D, cA, b, ext, Q, rfl, hx, hb, hml, hown, hts, hK, hfr, hlo, hC, hN, hini, hbs⟩ := h
  intro r S h1 h2 h3 H locs ls hP hS hl
  obtain ⟨C9, T9, N9, tys, f1, f2, f3, f4, f5, f6, f7, f8⟩ := hf
  have hap := va_apart (own := own) hts f4 tys f5 f6 hK.1 f1
  have hat := hP.1 a _ (zWs_at h9)
  obtain ⟨r9, g1, cell, q1, q2, q3, q4⟩ := hat
  have hr : r9 = (C9, T9, N9) := Option.some.inj (g1.symm.trans f1)
  subst hr
  obtain ⟨hSl, hfc, kC, hkC, hkind⟩ := hK.1.1 ci _ f1
  obtain ⟨cf, kf2, fi, f, hi9, hsl⟩ := hSl kf f2
  have hlay := hts _ (f4 _ (u_in_lay f2))
  unfold u_lay at hlay
  rw [if_neg (by rw [f7]; decide)] at hlay
  have hst := (u_facts hfc hkC (u_lays hts f4 f2) hi9).1
  have hd5 := f5 kf f2
  rw [f8] at hd5
  have h6 := u_store hfc hkC hkind hlay hi9 hd5 (hn (zcv b ext q)) (hfit (zcv b ext q))
  refine W.putK hx hb (f := f) ⟨hown, hts _ f3, ⟨_, _, _, hi9⟩, hst⟩ (by rw [q2]; exact h6) q1 q3 (by rw [hsl]; exact k2_hasslot (q4 kf f2)) rfl rfl hd fun H' e1 e2 e3 => ?_
  rw [hsl] at e1 ⊢
  have ha : a < Λ.length := (List.getElem?_eq_some_iff.mp h9).1
  have hlen : kf < (zFs (zcv b ext) (σ a) 0 fs).length := by rw [zFs_len]; exact h8
  have e9 := t_OB.to (V' := vp_V ((zFs (zcv b ext) (σ a) 0 fs).set kf (zV (zcv b ext) (.ref q)))) (V := updV (vp_V (zFs (zcv b ext) (σ a) 0 fs)) kf (zV (zcv b ext) (.ref q))) ⟨_, e1, q2, q3, t_set q4 hap f2 _⟩ (fun j _ => vp_updV_set hlen _ j)
  have hP1 := hP.1.set hP.D (zWs_at h9) (e := .inr (ci, (zFs (zcv b ext) (σ a) 0 fs).set kf (zV (zcv b ext) (.ref q)))) ⟨_, f1, e9⟩ e3
  refine kk r S h1 h2 h3 H' _ ls ⟨?_, by rw [e2, hP.2.1]; simp, by simpa using hP.2.2⟩ (hS.put e2 e3 (hP.D.2 a _ (zWs_at h9))) hl
  have e5 : (zFs (zcv b ext) (σ a) 0 fs).set kf (zV (zcv b ext) (.ref q)) = zFs (zcv b ext) (σ a) 0 (fs.set kf (some (some q))) := zFs_setR _ _ q fs 0 kf h8
  rw [e5] at hP1
  have e6 := zWs_set0 (cv := zcv b ext) (cA := cA) (σ := σ) (τ := σ) (e' := .inr (ci, fs.set kf (some (some q)))) ha (fun _ _ => rfl)
  rw [← e6]
  exact hP1
theorem ze_putRF {α : Type} {G : zGT} {l : Launch} {cc : ByteArray} {own : String} {nL d C N : Nat} {ini : Bool} {T : Option Value × zMem} {enc : α → Option Value} {Λ : zLay} {k n pc : Nat} {L : zLs} {st : List Value} {σ : zMem} {e : Option (α × zMem)} (h : zOk G l cc own nL d C N ini) {a ci kf idx q : Nat} {fs : List (Option (Option Nat))} {ty : FieldType} (h9 : Λ[a]? = some (.inr (ci, fs))) (h8 : kf < fs.length) (hf : zFld own idx ci kf true ty) (hi : ini = true) (ho : ∀ q9, vwCl[ci]? = some q9 → (q9.2.1 kf).1 = own) (hn : ∀ z : Nat, narrow ty (.ref z) = .ref z) (hfit : ∀ z : Nat, fits ty (.ref z) = true) (hd : decode cc pc = .ok (.putfield idx, 3)) (kk : zE G T enc (Λ.set a (.inr (ci, fs.set kf (some (some q))))) k n (pc + 3) L st σ e) : zE G T enc Λ k n pc L (.ref q :: .ref a :: st) σ e := by
  obtain ⟨p, e0, R, s, m, args, below, meth, c, D, cA, b, ext, Q, rfl, hx, hb, hml, hown, hts, hK, hfr, hlo, hC, hN, hini, hbs⟩ := h
  intro r S h1 h2 h3 H locs ls hP hS hl
  obtain ⟨C9, T9, N9, tys, f1, f2, f3, f4, f5, f6, f7, f8⟩ := hf
  have hap := va_apart (own := own) hts f4 tys f5 f6 hK.1 f1
  have hat := hP.1 a _ (zWs_at h9)
  obtain ⟨r9, g1, cell, q1, q2, q3, q4⟩ := hat
  have hr : r9 = (C9, T9, N9) := Option.some.inj (g1.symm.trans f1)
  subst hr
  obtain ⟨hSl, hfc, kC, hkC, hkind⟩ := hK.1.1 ci _ f1
  obtain ⟨cf, kf2, fi, f, hi9, hsl⟩ := hSl kf f2
  have hlay := hts _ (f4 _ (u_in_lay f2))
  unfold u_lay at hlay
  rw [if_pos f7] at hlay
  have hst := (u_facts hfc hkC (u_lays hts f4 f2) hi9).1
  have hd5 := f5 kf f2
  rw [f8] at hd5
  have hcf : m.cls = cf := by
    obtain ⟨_, _, c', _, _, _, -, -, hf', -, -, -, hown2, -⟩ := Cond.laysFinal_spec hlay
    have e1 : c' = cf := by have := hi9.symm.trans hf'; simp at this; exact this.1.symm
    rw [ho _ f1] at hown2
    rw [← e1]; exact Option.some.inj (hown.symm.trans hown2)
  have h6 := u_fits hfc hkC hkind (Or.inr hlay) hi9 hd5 (hn (zcv b ext q)) (hfit (zcv b ext q))
  refine W.putFinK hx hb hown (hts _ f3) hi9 hst hcf (hini hi) (by rw [q2]; exact h6) q1 q3 (by rw [hsl]; exact k2_hasslot (q4 kf f2)) rfl rfl hd fun H' e1 e2 e3 => ?_
  rw [hsl] at e1 ⊢
  have ha : a < Λ.length := (List.getElem?_eq_some_iff.mp h9).1
  have hlen : kf < (zFs (zcv b ext) (σ a) 0 fs).length := by rw [zFs_len]; exact h8
  have e9 := t_OB.to (V' := vp_V ((zFs (zcv b ext) (σ a) 0 fs).set kf (zV (zcv b ext) (.ref q)))) (V := updV (vp_V (zFs (zcv b ext) (σ a) 0 fs)) kf (zV (zcv b ext) (.ref q))) ⟨_, e1, q2, q3, t_set q4 hap f2 _⟩ (fun j _ => vp_updV_set hlen _ j)
  have hP1 := hP.1.set hP.D (zWs_at h9) (e := .inr (ci, (zFs (zcv b ext) (σ a) 0 fs).set kf (zV (zcv b ext) (.ref q)))) ⟨_, f1, e9⟩ e3
  refine kk r S h1 h2 h3 H' _ ls ⟨?_, by rw [e2, hP.2.1]; simp, by simpa using hP.2.2⟩ (hS.put e2 e3 (hP.D.2 a _ (zWs_at h9))) hl
  have e5 : (zFs (zcv b ext) (σ a) 0 fs).set kf (zV (zcv b ext) (.ref q)) = zFs (zcv b ext) (σ a) 0 (fs.set kf (some (some q))) := zFs_setR _ _ q fs 0 kf h8
  rw [e5] at hP1
  have e6 := zWs_set0 (cv := zcv b ext) (cA := cA) (σ := σ) (τ := σ) (e' := .inr (ci, fs.set kf (some (some q)))) ha (fun _ _ => rfl)
  rw [← e6]
  exact hP1
theorem ze_iald {α : Type} {G : zGT} {l : Launch} {cc : ByteArray} {own : String} {nL d C N : Nat} {ini : Bool} {T : Option Value × zMem} {enc : α → Option Value} {Λ : zLay} {k n pc : Nat} {L : zLs} {st : List Value} {σ : zMem} {e : Option (α × zMem)} (h : zOk G l cc own nL d C N ini) {a n9 : Nat} {i : Int32} (h9 : Λ[a]? = some (.inl n9)) (hin : vp_in i n9) (hd : decode cc pc = .ok (.iaload, 1)) (kk : zE G T enc Λ k n (pc + 1) L (.int (σ a (zix i)) :: st) σ e) : zE G T enc Λ k n pc L (.int i :: .ref a :: st) σ e := by
  obtain ⟨p, e0, R, s, m, args, below, meth, c, D, cA, b, ext, Q, rfl, hx, hb, hml, hown, hts, hK, hfr, hlo, hC, hN, hini, hbs⟩ := h
  intro r S h1 h2 h3 H locs ls hP hS hl
  exact va_iald (D := D) hx hb hK.1 hP.1 a 0 (zWs_at h9) rfl hin hd (kk r S h1 h2 h3 H locs ls hP hS hl)
theorem ze_ialdG {α : Type} {G : zGT} {l : Launch} {cc : ByteArray} {own : String} {nL d C N : Nat} {ini : Bool} {T : Option Value × zMem} {enc : α → Option Value} {Λ : zLay} {k n pc : Nat} {L : zLs} {st : List Value} {σ : zMem} {e : Option (α × zMem)} (h : zOk G l cc own nL d C N ini) {a n9 : Nat} {i : Int32} (h9 : Λ[a]? = some (.inl n9)) (hd : decode cc pc = .ok (.iaload, 1)) (kk : zE G T enc Λ k n (pc + 1) L (.int (σ a (zix i)) :: st) σ e) : zE G T enc Λ k n pc L (.int i :: .ref a :: st) σ (gd (zib i n9) e) := fun r S h1 h2 h3 => ze_iald h h9 (zib_in (zgd h1).1) hd kk r S (zgd h1).2 h2 h3
theorem ze_iast {α : Type} {G : zGT} {l : Launch} {cc : ByteArray} {own : String} {nL d C N : Nat} {ini : Bool} {T : Option Value × zMem} {enc : α → Option Value} {Λ : zLay} {k n pc : Nat} {L : zLs} {st : List Value} {σ : zMem} {e : Option (α × zMem)} (h : zOk G l cc own nL d C N ini) {a n9 : Nat} {i x : Int32} (h9 : Λ[a]? = some (.inl n9)) (hin : vp_in i n9) (hd : decode cc pc = .ok (.iastore, 1)) (kk : zE G T enc Λ k n (pc + 1) L st (zUp σ a (zix i) x) e) : zE G T enc Λ k n pc L (.int x :: .int i :: .ref a :: st) σ e := by
  obtain ⟨p, e0, R, s, m, args, below, meth, c, D, cA, b, ext, Q, rfl, hx, hb, hml, hown, hts, hK, hfr, hlo, hC, hN, hini, hbs⟩ := h
  intro r S h1 h2 h3 H locs ls hP hS hl
  have hat := hP.1 a _ (zWs_at h9)
  have ha : a < Λ.length := (List.getElem?_eq_some_iff.mp h9).1
  refine W.iast hx hb hat ((hK.1.2 0 _ rfl).1 n9 (fun j => .int (σ a j))) (fun q => by cases q) (by show ¬ (i < 0 ∨ (arrV _ _ _).slots.size ≤ _); rw [arrV_size]; exact hin) rfl rfl hd fun H1 e1 e2 e3 => ?_
  have hP1 := hP.1.set hP.D (zWs_at h9) (e := .inl (cA, n9, .inl (upd (σ a) (zix i) x))) (by
    show H1[zcv b ext a]? = some (vp_cell _ _)
    rw [e1]
    show some ((vp_cell cA (n9, .inl (σ a))).setSlot _ _) = _
    rw [vp_cell_i, vp_cell_i, arrV_store]
    congr 2
    funext q
    by_cases hq : q = i.toNatClampNeg
    · subst hq; simp [updV, upd]
    · simp [updV, upd, hq]) e3
  refine kk r S h1 h2 h3 H1 _ ls ⟨?_, by rw [e2]; exact hP.2.1, hP.2.2⟩ (hS.put e2 e3 (hP.D.2 a _ (zWs_at h9))) hl
  have e6 := zWs_set0 (cv := zcv b ext) (cA := cA) (σ := σ) (τ := zUp σ a (zix i) x) (e' := .inl n9) ha (fun _ hx9 => zUp_ne hx9)
  rw [zset_same Λ a _ h9, zUp_self] at e6
  rw [← e6]
  exact hP1
theorem ze_iastG {α : Type} {G : zGT} {l : Launch} {cc : ByteArray} {own : String} {nL d C N : Nat} {ini : Bool} {T : Option Value × zMem} {enc : α → Option Value} {Λ : zLay} {k n pc : Nat} {L : zLs} {st : List Value} {σ : zMem} {e : Option (α × zMem)} (h : zOk G l cc own nL d C N ini) {a n9 : Nat} {i x : Int32} (h9 : Λ[a]? = some (.inl n9)) (hd : decode cc pc = .ok (.iastore, 1)) (kk : zE G T enc Λ k n (pc + 1) L st (zUp σ a (zix i) x) e) : zE G T enc Λ k n pc L (.int x :: .int i :: .ref a :: st) σ (gd (zib i n9) e) := fun r S h1 h2 h3 => ze_iast h h9 (zib_in (zgd h1).1) hd kk r S (zgd h1).2 h2 h3
theorem ze_alen {α : Type} {G : zGT} {l : Launch} {cc : ByteArray} {own : String} {nL d C N : Nat} {ini : Bool} {T : Option Value × zMem} {enc : α → Option Value} {Λ : zLay} {k n pc : Nat} {L : zLs} {st : List Value} {σ : zMem} {e : Option (α × zMem)} (h : zOk G l cc own nL d C N ini) {a n9 : Nat} {v : Int32} (h9 : Λ[a]? = some (.inl n9)) (hv : Int32.ofNat n9 = v) (hd : decode cc pc = .ok (.arraylength, 1)) (kk : zE G T enc Λ k n (pc + 1) L (.int v :: st) σ e) : zE G T enc Λ k n pc L (.ref a :: st) σ e := by
  obtain ⟨p, e0, R, s, m, args, below, meth, c, D, cA, b, ext, Q, rfl, hx, hb, hml, hown, hts, hK, hfr, hlo, hC, hN, hini, hbs⟩ := h
  intro r S h1 h2 h3 H locs ls hP hS hl
  exact va_alen (D := D) hx hb hK.1 hP.1 a 0 (x := (n9, .inl (σ a))) (zWs_at h9) (ty := .int) rfl hv hd (kk r S h1 h2 h3 H locs ls hP hS hl)
