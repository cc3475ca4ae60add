theorem zKst.blind {D : va_G} {cA : ClassId} {b : Nat} {ext : Nat → Nat} {Λ : zLay} {σ : zMem} {av : List Value} : FrameBlind (va_Pc av (zPre D cA b ext Λ σ)) := fun a U g mk q => ⟨q.1, q.2.1, zKst.go (s := U) (U := U.calling g mk a) (H0 := U.heap) (H := U.heap) (locs := []) q.2.2 va_S.rf (State.WarmedH.refl U)⟩
theorem zfin {p : Program} {l : Launch} {e : Env} {R : Room} {s : State} {m : MethodId} {args : Array Value} {below : List Frame} {meth : Method} {c : Code} {D : va_G} {cA : ClassId} {b : Nat} {ext : Nat → Nat} {H : Heap} {locs : List Loc} {k n mc ms : Nat} {Q : State → Prop} {pc : Nat} {ls : Array Slot} {st0 rest : List Value} {V : Option Value} {Λ' : zLay} {S' : zMem} {a : Array Value}
    (hr : va_Run p l e R s m args below meth c H locs k n mc ms (F0 m pc ls st0) rest (zPost D cA b ext V Λ' S' a) (zA b)) (hS : va_S (zA b) s.heap H locs)
    (kk : ∀ (H1 : Heap) (locs1 : List Loc), zPic D cA b ext Λ' S' H1 → va_S (zA b) s.heap H1 locs1 → W p l e R s m args below meth c H1 locs1 (k + mc) (n + ms) Q (F0 m (pc + 3) ls ((V.map (zV (zcv b ext))).toList ++ rest))) : W p l e R s m args below meth c H locs k n Q (F0 m pc ls st0) := by
  intro T hT X
  obtain ⟨v, st₀, t, T', Lc, h0, X', hL, e1, e2, ⟨hv, hp, hz, hk⟩, stp⟩ := hr T hT X
  cases hv
  rw [h0] at hz hk
  obtain ⟨t2, a1, b1⟩ := kk T'.heap (locs ++ Lc) (by rw [e1]; exact hp) ⟨Nat.le_trans hS.1 (by rw [e1]; exact hz), fun q h1 h2 => by rw [e1, hk q (Nat.lt_of_lt_of_le h1 hS.1) h2]; exact hS.2.1 q h1 h2, fun q hq => by
    rcases List.mem_append.mp hq with h | h
    · exact hS.2.2 q h
    · exact hL q h⟩ T' rfl X'
  exact ⟨t2, stp t2 a1, b1⟩
theorem zcv_ext {b : Nat} {ext : Nat → Nat} {i : Nat} : zcv b ext (1000 + i) = ext i := by
  unfold zcv
  rw [if_neg (by omega), Nat.add_sub_cancel_left]
def zC {α : Type} (l : Launch) (y : MethodName) (c : Cond) (d : Nat) (args : List Value) (Λ : zLay) (σ : zMem) (enc : α → Option Value) (f : Option (α × zMem)) : Prop := ∀ r S, f = some (r, S) → zMet l y c d 0 0 args Λ σ (enc r) Λ S
def zCI (l : Launch) (y : MethodName) (c : Cond) (d mc ms : Nat) (args : List Value) (Λ : zLay) (σ : zMem) (Λ' : zLay) (f : Option (Unit × zMem)) : Prop := ∀ r S, f = some (r, S) → zMet l y c d mc ms args Λ σ none Λ' S
theorem zC_of {α : Type} {l : Launch} {y : MethodName} {cc : ByteArray} {nL : Nat} {ret : Option FieldType} {d : Nat} {own : String} {args : List Value} {Λ : zLay} {σ : zMem} {enc : α → Option Value} {f : Option (α × zMem)} (hy : plainName y.cls = true) (hown : y.cls = own) (hl : (zArgs args).length ≤ nL) (L : zLs) (hL : zArgs args ++ List.replicate (nL - (zArgs args).length) none = L)
    (h : ∀ (G : zGT) (T : Option Value × zMem), zOk G l cc own nL d 0 0 false → zR G cc ret T Λ 0 0 → zE G T enc Λ 0 0 0 L [] σ f) : zC l y (.code y cc nL ret) d args Λ σ enc f := by
  intro r S hf
  exact zM_of (T := (enc r, S)) (ini := false) hy hown (fun q => by cases q) hl L hL (fun G hG hR => h G (enc r, S) hG hR r S hf rfl rfl)
theorem zCI_of {l : Launch} {y : MethodName} {cc : ByteArray} {nL : Nat} {d mc ms : Nat} {own : String} {args : List Value} {Λ Λ' : zLay} {σ : zMem} {f : Option (Unit × zMem)} (hy : plainName y.cls = true) (hown : y.cls = own) (hi : y.name = "<init>") (hl : (zArgs args).length ≤ nL) (L : zLs) (hL : zArgs args ++ List.replicate (nL - (zArgs args).length) none = L)
    (h : ∀ (G : zGT) (T : Option Value × zMem), zOk G l cc own nL d mc ms true → zR G cc none T Λ' mc ms → zE G T (fun _ : Unit => none) Λ 0 0 0 L [] σ f) : zCI l y (.code y cc nL none) d mc ms args Λ σ Λ' f := by
  intro r S hf
  exact zM_of (T := (none, S)) (ini := true) hy hown (fun _ => hi) hl L hL (fun G hG hR => h G (none, S) hG hR r S hf rfl rfl)
def zCe (y : MethodName) (cb : ByteArray) (nL : Nat) (ret : Option FieldType) (n : Nat) : Prop := Cond.code y cb nL ret ∈ zW ∧ Cond.initialized y.cls ∈ zW ∧ (y.cls ≠ "java/lang/invoke/MethodHandle" ∧ y.cls ≠ "java/lang/invoke/VarHandle") ∧ (parseMethodDescriptor y.desc).map (fun d => d.parameters.length) = some n ∧ nL ≤ 29
theorem zgood_cons {c : Cond} (h : c ∈ zW) : GoodIn zW (c :: zW) := fun w hw => by
  rcases List.mem_cons.mp hw with e | e
  · rw [e]; exact zW_good c h
  · exact zW_good w e
theorem zcons {c : Cond} {ws : List Cond} (h : c ∈ zW) (g : GoodIn zW ws) : GoodIn zW (c :: ws) := fun w hw => by
  rcases List.mem_cons.mp hw with e | e
  · rw [e]; exact zW_good c h
  · exact g w e
theorem zbd {α β : Type} {m : Option (α × zMem)} {f : α → zMem → Option β} {q : β} (h : bd m f = some q) : ∃ r S, m = some (r, S) ∧ f r S = some q := by
  cases m with
  | none => cases h
  | some w => exact ⟨w.1, w.2, rfl, h⟩
theorem ze_callV {α : Type} {G : zGT} {l : Launch} {cc : ByteArray} {own : String} {nL d C N : Nat} {ini : Bool} {T : Option Value × zMem} {enc : α → Option Value} {Λ : zLay} {k n pc : Nat} {L : zLs} {st : List Value} {σ : zMem} {β : Type} {f : Option (β × zMem)} {enc2 : β → Option Value} {kf : β → zMem → Option (α × zMem)} {st0 As : List Value} {y : MethodName} {cb : ByteArray} {nL2 n9 idx dd : Nat} {ret : Option FieldType} (h : zOk G l cc own nL d C N ini) (hy : zCe y cb nL2 ret n9) (hi9 : Cond.instanceMethod y ∈ zW) (hs9 : Cond.selects y.cls y y ∈ zW) (hm : Cond.methodLink own idx y ∈ zW) {a ci : Nat} {fs : List (Option (Option Nat))} {q9 : vw_C} (h9 : Λ[a]? = some (.inr (ci, fs))) (hc : vwCl[ci]? = some q9) (hq : q9.1 = y.cls) (hdd : dd + 1 ≤ d) (hkn : k ≤ C ∧ n ≤ N) (hcon : zC l y (.code y cb nL2 ret) dd (.ref a :: As) Λ σ enc2 f) (hn : As.length = n9) (hw : (st.map fun v => v.category).sum ≤ 8) (hst : As.reverse ++ .ref a :: st = st0) (hd : decode cc pc = .ok (.invokevirtual idx, 3)) (kk : ∀ (r : β) (S : zMem), zE G T enc Λ k n (pc + 3) L ((enc2 r).toList ++ st) S (kf r S)) : zE G T enc Λ k n pc L st0 σ (bd f kf) := by
  intro r S h1 h2 h3
  obtain ⟨r2, S2, hf, h1⟩ := zbd h1
  have hM := hcon r2 S2 hf
  have hkk := kk r2 S2 r S h1 h2 h3
  obtain ⟨y1, y2, y3, y4, y5⟩ := hy
  obtain ⟨p, e0, R, s, m, args, below, meth, c, D, cA, b, ext, Q, rfl, hx, hb, hml, hown, hts, hK, hfr, hlo, hC, hN, hini, hbs⟩ := h
  intro H locs ls hP hS hl
  have hR9 : (zroom dd 0 0).frames + 1 ≤ R.frames ∧ 8 + (nL2 + 11) + (zroom dd 0 0).locals ≤ R.locals := ⟨by show dd + 1 ≤ _; omega, by show 8 + (nL2 + 11) + 64 * dd ≤ _; omega⟩
  have hcells : k + 0 ≤ R.cells ∧ n + 0 ≤ R.slots := ⟨by omega, by omega⟩
  have hW9 : (List.map (fun v => Value.category v) (List.map (zV (zcv b ext)) st)).sum ≤ 8 := by rw [zCat]; exact hw
  have hpre : ∀ U : State, U.heap = H → s.WarmedH U.vm → va_Pc (List.map (zV (zcv b ext)) (.ref a :: As)) (zPre D cA b ext Λ σ) (List.map (zV (zcv b ext)) (.ref a :: As)).toArray U := fun U hU hWm => ⟨rfl, by rw [hU]; exact hP, zKst.go hK (by rw [hU]; exact hS) hWm⟩
  have hG9 : GoodIn zW (wsV own idx y.cls y ((Cond.code y cb nL2 ret) :: zW)) := zcons hm (zcons hi9 (zcons hs9 (zcons y2 (zgood_cons y1))))
  have hrun := va_runV (e := e0) (below := below) (meth := meth) (As := List.map (zV (zcv b ext)) As) (rest := List.map (zV (zcv b ext)) st) (b := zcv b ext a) (g := F0 m pc ls (List.map (zV (zcv b ext)) st0)) (H := H) (locs := locs) (cells := k) (slots := n) (C := y.cls) (Ts := zW) ⟨hx, hb, hml, hown, hts⟩ (hM D cA b ext) (cwV n9 hts hG9 rfl rfl rfl ⟨rfl, y3.1, y3.2, y4⟩ hR9) ⟨zKst.blind, by rw [← hq]; exact va_recv hK.1 hP.1 hc (zWs_at h9), hpre⟩ rfl (by rw [List.length_map]; exact hn) hl.1 (by subst hst; show List.map (zV (zcv b ext)) _ = _; simp [zV]) (lv_room hW9) hd hcells
  exact zfin hrun hS (fun H1 locs1 hP1 hS1 => by
    have := hkk H1 locs1 ls hP1 hS1 hl
    rw [List.map_append] at this
    cases he : enc2 r2 with
    | none => rw [he] at this; exact this
    | some v9 => rw [he] at this; exact this)
theorem ze_callT {α : Type} {G : zGT} {l : Launch} {cc : ByteArray} {own : String} {nL d C N : Nat} {ini : Bool} {T : Option Value × zMem} {enc : α → Option Value} {Λ : zLay} {k n pc : Nat} {L : zLs} {st : List Value} {σ : zMem} {β : Type} {f : Option (β × zMem)} {enc2 : β → Option Value} {kf : β → zMem → Option (α × zMem)} {st0 As : List Value} {y : MethodName} {cb : ByteArray} {nL2 n9 idx dd : Nat} {ret : Option FieldType} (h : zOk G l cc own nL d C N ini) (hy : zCe y cb nL2 ret n9) (hi9 : Cond.instanceMethod y ∈ zW) (hs9 : Cond.selects y.cls y y ∈ zW) (hm : Cond.methodLink own idx y ∈ zW) {i a : Nat} (ha : a = 1000 + i) (hi : i < 13) (hq : y.cls = "java/lang/String") (hdd : dd + 1 ≤ d) (hkn : k ≤ C ∧ n ≤ N) (hcon : zC l y (.code y cb nL2 ret) dd (.ref a :: As) Λ σ enc2 f) (hn : As.length = n9) (hw : (st.map fun v => v.category).sum ≤ 8) (hst : As.reverse ++ .ref a :: st = st0) (hd : decode cc pc = .ok (.invokevirtual idx, 3)) (kk : ∀ (r : β) (S : zMem), zE G T enc Λ k n (pc + 3) L ((enc2 r).toList ++ st) S (kf r S)) : zE G T enc Λ k n pc L st0 σ (bd f kf) := by
  intro r S h1 h2 h3
  obtain ⟨r2, S2, hf, h1⟩ := zbd h1
  have hM := hcon r2 S2 hf
  have hkk := kk r2 S2 r S h1 h2 h3
  obtain ⟨y1, y2, y3, y4, y5⟩ := hy
  obtain ⟨p, e0, R, s, m, args, below, meth, c, D, cA, b, ext, Q, rfl, hx, hb, hml, hown, hts, hK, hfr, hlo, hC, hN, hini, hbs⟩ := h
  intro H locs ls hP hS hl
  have hR9 : (zroom dd 0 0).frames + 1 ≤ R.frames ∧ 8 + (nL2 + 11) + (zroom dd 0 0).locals ≤ R.locals := ⟨by show dd + 1 ≤ _; omega, by show 8 + (nL2 + 11) + 64 * dd ≤ _; omega⟩
  have hcells : k + 0 ≤ R.cells ∧ n + 0 ≤ R.slots := ⟨by omega, by omega⟩
  have hW9 : (List.map (fun v => Value.category v) (List.map (zV (zcv b ext)) st)).sum ≤ 8 := by rw [zCat]; exact hw
  have hpre : ∀ U : State, U.heap = H → s.WarmedH U.vm → va_Pc (List.map (zV (zcv b ext)) (.ref a :: As)) (zPre D cA b ext Λ σ) (List.map (zV (zcv b ext)) (.ref a :: As)).toArray U := fun U hU hWm => ⟨rfl, by rw [hU]; exact hP, zKst.go hK (by rw [hU]; exact hS) hWm⟩
  have hG9 : GoodIn zW (wsV own idx y.cls y ((Cond.code y cb nL2 ret) :: zW)) := zcons hm (zcons hi9 (zcons hs9 (zcons y2 (zgood_cons y1))))
  have hrv : ∃ cell : Cell, H[zcv b ext a]? = some cell ∧ cell.vm.isStatics = false ∧ s.vm.findClass y.cls = some cell.cls := by
    have e9 : zcv b ext a = ext i := by rw [ha]; exact zcv_ext
    rw [e9, hq]
    exact vk_recv hK.2.1 hi hS
  have hrun := va_runV (e := e0) (below := below) (meth := meth) (As := List.map (zV (zcv b ext)) As) (rest := List.map (zV (zcv b ext)) st) (b := zcv b ext a) (g := F0 m pc ls (List.map (zV (zcv b ext)) st0)) (H := H) (locs := locs) (cells := k) (slots := n) (C := y.cls) (Ts := zW) ⟨hx, hb, hml, hown, hts⟩ (hM D cA b ext) (cwV n9 hts hG9 rfl rfl rfl ⟨rfl, y3.1, y3.2, y4⟩ hR9) ⟨zKst.blind, hrv, hpre⟩ rfl (by rw [List.length_map]; exact hn) hl.1 (by subst hst; show List.map (zV (zcv b ext)) _ = _; simp [zV]) (lv_room hW9) hd hcells
  exact zfin hrun hS (fun H1 locs1 hP1 hS1 => by
    have := hkk H1 locs1 ls hP1 hS1 hl
    rw [List.map_append] at this
    cases he : enc2 r2 with
    | none => rw [he] at this; exact this
    | some v9 => rw [he] at this; exact this)
theorem ze_callS {α : Type} {G : zGT} {l : Launch} {cc : ByteArray} {own : String} {nL d C N : Nat} {ini : Bool} {T : Option Value × zMem} {enc : α → Option Value} {Λ : zLay} {k n pc : Nat} {L : zLs} {st : List Value} {σ : zMem} {β : Type} {f : Option (β × zMem)} {enc2 : β → Option Value} {kf : β → zMem → Option (α × zMem)} {st0 As : List Value} {y : MethodName} {cb : ByteArray} {nL2 n9 idx dd : Nat} {ret : Option FieldType} (h : zOk G l cc own nL d C N ini) (hy : zCe y cb nL2 ret n9) (hi9 : Cond.static y ∈ zW) (hm : Cond.methodLink own idx y ∈ zW) (hdd : dd + 1 ≤ d) (hkn : k ≤ C ∧ n ≤ N) (hcon : zC l y (.code y cb nL2 ret) dd As Λ σ enc2 f) (hn : As.length = n9) (hw : (st.map fun v => v.category).sum ≤ 8) (hst : As.reverse ++ st = st0) (hd : decode cc pc = .ok (.invokestatic idx, 3)) (kk : ∀ (r : β) (S : zMem), zE G T enc Λ k n (pc + 3) L ((enc2 r).toList ++ st) S (kf r S)) : zE G T enc Λ k n pc L st0 σ (bd f kf) := by
  intro r S h1 h2 h3
  obtain ⟨r2, S2, hf, h1⟩ := zbd h1
  have hM := hcon r2 S2 hf
  have hkk := kk r2 S2 r S h1 h2 h3
  obtain ⟨y1, y2, y3, y4, y5⟩ := hy
  obtain ⟨p, e0, R, s, m, args, below, meth, c, D, cA, b, ext, Q, rfl, hx, hb, hml, hown, hts, hK, hfr, hlo, hC, hN, hini, hbs⟩ := h
  intro H locs ls hP hS hl
  have hR9 : (zroom dd 0 0).frames + 1 ≤ R.frames ∧ 8 + (nL2 + 11) + (zroom dd 0 0).locals ≤ R.locals := ⟨by show dd + 1 ≤ _; omega, by show 8 + (nL2 + 11) + 64 * dd ≤ _; omega⟩
  have hcells : k + 0 ≤ R.cells ∧ n + 0 ≤ R.slots := ⟨by omega, by omega⟩
  have hW9 : (List.map (fun v => Value.category v) (List.map (zV (zcv b ext)) st)).sum ≤ 8 := by rw [zCat]; exact hw
  have hpre : ∀ U : State, U.heap = H → s.WarmedH U.vm → va_Pc (List.map (zV (zcv b ext)) As) (zPre D cA b ext Λ σ) (List.map (zV (zcv b ext)) As).toArray U := fun U hU hWm => ⟨rfl, by rw [hU]; exact hP, zKst.go hK (by rw [hU]; exact hS) hWm⟩
  have hG9 : GoodIn zW (va_wsS own idx y ((Cond.code y cb nL2 ret) :: zW)) := zcons hm (zcons hi9 (zcons y2 (zgood_cons y1)))
  have hrun := va_runS (e := e0) (below := below) (meth := meth) (As := List.map (zV (zcv b ext)) As) (rest := List.map (zV (zcv b ext)) st) (g := F0 m pc ls (List.map (zV (zcv b ext)) st0)) (H := H) (locs := locs) (cells := k) (slots := n) (Ts := zW) ⟨hx, hb, hml, hown, hts⟩ (hM D cA b ext) (va_cwS n9 hts hG9 rfl rfl rfl ⟨y3.1, y3.2, y4⟩ hR9) ⟨zKst.blind, hpre⟩ rfl (by rw [List.length_map]; exact hn) hl.1 (by subst hst; show List.map (zV (zcv b ext)) _ = _; simp [zV]) (lv_room hW9) hd hcells
  exact zfin hrun hS (fun H1 locs1 hP1 hS1 => by
    have := hkk H1 locs1 ls hP1 hS1 hl
    rw [List.map_append] at this
    cases he : enc2 r2 with
    | none => rw [he] at this; exact this
    | some v9 => rw [he] at this; exact this)
theorem ze_callSN {α : Type} {G : zGT} {l : Launch} {cc : ByteArray} {own : String} {nL d C N : Nat} {ini : Bool} {T : Option Value × zMem} {enc : α → Option Value} {Λ : zLay} {k n pc : Nat} {L : zLs} {st : List Value} {σ : zMem} {β : Type} {f : Option (β × zMem)} {enc2 : β → Option Value} {kf : β → zMem → Option (α × zMem)} {st0 As : List Value} {y : MethodName} {cb : ByteArray} {nL2 n9 idx dd : Nat} {ret : Option FieldType} (h : zOk G l cc own nL d C N ini) (hy : zCe y cb nL2 ret n9) (hi9 : Cond.static y ∈ zW) {j : Nat} {host : String} (hm : zNest[j]? = some (own, idx, y, host)) (hdd : dd + 1 ≤ d) (hkn : k ≤ C ∧ n ≤ N) (hcon : zC l y (.code y cb nL2 ret) dd As Λ σ enc2 f) (hn : As.length = n9) (hw : (st.map fun v => v.category).sum ≤ 8) (hst : As.reverse ++ st = st0) (hd : decode cc pc = .ok (.invokestatic idx, 3)) (kk : ∀ (r : β) (S : zMem), zE G T enc Λ k n (pc + 3) L ((enc2 r).toList ++ st) S (kf r S)) : zE G T enc Λ k n pc L st0 σ (bd f kf) := by
  intro r S h1 h2 h3
  obtain ⟨r2, S2, hf, h1⟩ := zbd h1
  have hM := hcon r2 S2 hf
  have hkk := kk r2 S2 r S h1 h2 h3
  obtain ⟨y1, y2, y3, y4, y5⟩ := hy
  obtain ⟨p, e0, R, s, m, args, below, meth, c, D, cA, b, ext, Q, rfl, hx, hb, hml, hown, hts, hK, hfr, hlo, hC, hN, hini, hbs⟩ := h
  intro H locs ls hP hS hl
  have hR9 : (zroom dd 0 0).frames + 1 ≤ R.frames ∧ 8 + (nL2 + 11) + (zroom dd 0 0).locals ≤ R.locals := ⟨by show dd + 1 ≤ _; omega, by show 8 + (nL2 + 11) + 64 * dd ≤ _; omega⟩
  have hcells : k + 0 ≤ R.cells ∧ n + 0 ≤ R.slots := ⟨by omega, by omega⟩
  have hW9 : (List.map (fun v => Value.category v) (List.map (zV (zcv b ext)) st)).sum ≤ 8 := by rw [zCat]; exact hw
  have hpre : ∀ U : State, U.heap = H → s.WarmedH U.vm → va_Pc (List.map (zV (zcv b ext)) As) (zPre D cA b ext Λ σ) (List.map (zV (zcv b ext)) As).toArray U := fun U hU hWm => ⟨rfl, by rw [hU]; exact hP, zKst.go hK (by rw [hU]; exact hS) hWm⟩
  have hnest : va_Nw (.methodLinkNest own idx y host) s := hK.2.2.2.2.2.2 j _ hm
  have hrun := va_runSN (e := e0) (below := below) (meth := meth) (As := List.map (zV (zcv b ext)) As) (rest := List.map (zV (zcv b ext)) st) (g := F0 m pc ls (List.map (zV (zcv b ext)) st0)) (H := H) (locs := locs) (cells := k) (slots := n) (Ts := zW) ⟨hx, hb, hml, hown, hts⟩ (hM D cA b ext) ⟨va_cnB n9 hts (zgood_cons y1) rfl rfl rfl hnest (hts _ y2) ⟨y3.1, y3.2, y4⟩ hR9, hts _ hi9, trivial⟩ ⟨zKst.blind, hpre⟩ rfl (by rw [List.length_map]; exact hn) hl.1 (by subst hst; show List.map (zV (zcv b ext)) _ = _; simp [zV]) (lv_room hW9) hd hcells
  exact zfin hrun hS (fun H1 locs1 hP1 hS1 => by
    have := hkk H1 locs1 ls hP1 hS1 hl
    rw [List.map_append] at this
    cases he : enc2 r2 with
    | none => rw [he] at this; exact this
    | some v9 => rw [he] at this; exact this)
theorem ze_callVi {α : Type} {G : zGT} {l : Launch} {cc : ByteArray} {own : String} {nL d C N : Nat} {ini : Bool} {T : Option Value × zMem} {enc : α → Option Value} {Λ : zLay} {k n pc : Nat} {L : zLs} {st : List Value} {σ : zMem} {f : Option (Int32 × zMem)} {kf : Int32 → zMem → Option (α × zMem)} {st0 As : List Value} {y : MethodName} {cb : ByteArray} {nL2 n9 idx dd : Nat} {ret : Option FieldType} (h : zOk G l cc own nL d C N ini) (hy : zCe y cb nL2 ret n9) (hi9 : Cond.instanceMethod y ∈ zW) (hs9 : Cond.selects y.cls y y ∈ zW) (hm : Cond.methodLink own idx y ∈ zW) {a ci : Nat} {fs : List (Option (Option Nat))} {q9 : vw_C} (h9 : Λ[a]? = some (.inr (ci, fs))) (hc : vwCl[ci]? = some q9) (hq : q9.1 = y.cls) (hdd : dd + 1 ≤ d) (hkn : k ≤ C ∧ n ≤ N) (hcon : zC l y (.code y cb nL2 ret) dd (.ref a :: As) Λ σ (fun r : Int32 => some (.int r)) f) (hn : As.length = n9) (hw : (st.map fun v => v.category).sum ≤ 8) (hst : As.reverse ++ .ref a :: st = st0) (hd : decode cc pc = .ok (.invokevirtual idx, 3)) (kk : ∀ (r : Int32) (S : zMem), zE G T enc Λ k n (pc + 3) L (.int r :: st) S (kf r S)) : zE G T enc Λ k n pc L st0 σ (bd f kf) := ze_callV (enc2 := (fun r : Int32 => some (.int r))) h hy hi9 hs9 hm h9 hc hq hdd hkn hcon hn hw hst hd kk
theorem ze_callVv {α : Type} {G : zGT} {l : Launch} {cc : ByteArray} {own : String} {nL d C N : Nat} {ini : Bool} {T : Option Value × zMem} {enc : α → Option Value} {Λ : zLay} {k n pc : Nat} {L : zLs} {st : List Value} {σ : zMem} {f : Option (Unit × zMem)} {kf : Unit → zMem → Option (α × zMem)} {st0 As : List Value} {y : MethodName} {cb : ByteArray} {nL2 n9 idx dd : Nat} {ret : Option FieldType} (h : zOk G l cc own nL d C N ini) (hy : zCe y cb nL2 ret n9) (hi9 : Cond.instanceMethod y ∈ zW) (hs9 : Cond.selects y.cls y y ∈ zW) (hm : Cond.methodLink own idx y ∈ zW) {a ci : Nat} {fs : List (Option (Option Nat))} {q9 : vw_C} (h9 : Λ[a]? = some (.inr (ci, fs))) (hc : vwCl[ci]? = some q9) (hq : q9.1 = y.cls) (hdd : dd + 1 ≤ d) (hkn : k ≤ C ∧ n ≤ N) (hcon : zC l y (.code y cb nL2 ret) dd (.ref a :: As) Λ σ (fun _ : Unit => none) f) (hn : As.length = n9) (hw : (st.map fun v => v.category).sum ≤ 8) (hst : As.reverse ++ .ref a :: st = st0) (hd : decode cc pc = .ok (.invokevirtual idx, 3)) (kk : ∀ (r : Unit) (S : zMem), zE G T enc Λ k n (pc + 3) L (st) S (kf r S)) : zE G T enc Λ k n pc L st0 σ (bd f kf) := ze_callV (enc2 := (fun _ : Unit => none)) h hy hi9 hs9 hm h9 hc hq hdd hkn hcon hn hw hst hd kk
theorem ze_callVl {α : Type} {G : zGT} {l : Launch} {cc : ByteArray} {own : String} {nL d C N : Nat} {ini : Bool} {T : Option Value × zMem} {enc : α → Option Value} {Λ : zLay} {k n pc : Nat} {L : zLs} {st : List Value} {σ : zMem} {f : Option (Int64 × zMem)} {kf : Int64 → zMem → Option (α × zMem)} {st0 As : List Value} {y : MethodName} {cb : ByteArray} {nL2 n9 idx dd : Nat} {ret : Option FieldType} (h : zOk G l cc own nL d C N ini) (hy : zCe y cb nL2 ret n9) (hi9 : Cond.instanceMethod y ∈ zW) (hs9 : Cond.selects y.cls y y ∈ zW) (hm : Cond.methodLink own idx y ∈ zW) {a ci : Nat} {fs : List (Option (Option Nat))} {q9 : vw_C} (h9 : Λ[a]? = some (.inr (ci, fs))) (hc : vwCl[ci]? = some q9) (hq : q9.1 = y.cls) (hdd : dd + 1 ≤ d) (hkn : k ≤ C ∧ n ≤ N) (hcon : zC l y (.code y cb nL2 ret) dd (.ref a :: As) Λ σ (fun r : Int64 => some (.long r)) f) (hn : As.length = n9) (hw : (st.map fun v => v.category).sum ≤ 8) (hst : As.reverse ++ .ref a :: st = st0) (hd : decode cc pc = .ok (.invokevirtual idx, 3)) (kk : ∀ (r : Int64) (S : zMem), zE G T enc Λ k n (pc + 3) L (.long r :: st) S (kf r S)) : zE G T enc Λ k n pc L st0 σ (bd f kf) := ze_callV (enc2 := (fun r : Int64 => some (.long r))) h hy hi9 hs9 hm h9 hc hq hdd hkn hcon hn hw hst hd kk
theorem ze_callVr {α : Type} {G : zGT} {l : Launch} {cc : ByteArray} {own : String} {nL d C N : Nat} {ini : Bool} {T : Option Value × zMem} {enc : α → Option Value} {Λ : zLay} {k n pc : Nat} {L : zLs} {st : List Value} {σ : zMem} {f : Option (Nat × zMem)} {kf : Nat → zMem → Option (α × zMem)} {st0 As : List Value} {y : MethodName} {cb : ByteArray} {nL2 n9 idx dd : Nat} {ret : Option FieldType} (h : zOk G l cc own nL d C N ini) (hy : zCe y cb nL2 ret n9) (hi9 : Cond.instanceMethod y ∈ zW) (hs9 : Cond.selects y.cls y y ∈ zW) (hm : Cond.methodLink own idx y ∈ zW) {a ci : Nat} {fs : List (Option (Option Nat))} {q9 : vw_C} (h9 : Λ[a]? = some (.inr (ci, fs))) (hc : vwCl[ci]? = some q9) (hq : q9.1 = y.cls) (hdd : dd + 1 ≤ d) (hkn : k ≤ C ∧ n ≤ N) (hcon : zC l y (.code y cb nL2 ret) dd (.ref a :: As) Λ σ (fun r : Nat => some (.ref r)) f) (hn : As.length = n9) (hw : (st.map fun v => v.category).sum ≤ 8) (hst : As.reverse ++ .ref a :: st = st0) (hd : decode cc pc = .ok (.invokevirtual idx, 3)) (kk : ∀ (r : Nat) (S : zMem), zE G T enc Λ k n (pc + 3) L (.ref r :: st) S (kf r S)) : zE G T enc Λ k n pc L st0 σ (bd f kf) := ze_callV (enc2 := (fun r : Nat => some (.ref r))) h hy hi9 hs9 hm h9 hc hq hdd hkn hcon hn hw hst hd kk
theorem ze_callTi {α : Type} {G : zGT} {l : Launch} {cc : ByteArray} {own : String} {nL d C N : Nat} {ini : Bool} {T : Option Value × zMem} {enc : α → Option Value} {Λ : zLay} {k n pc : Nat} {L : zLs} {st : List Value} {σ : zMem} {f : Option (Int32 × zMem)} {kf : Int32 → zMem → Option (α × zMem)} {st0 As : List Value} {y : MethodName} {cb : ByteArray} {nL2 n9 idx dd : Nat} {ret : Option FieldType} (h : zOk G l cc own nL d C N ini) (hy : zCe y cb nL2 ret n9) (hi9 : Cond.instanceMethod y ∈ zW) (hs9 : Cond.selects y.cls y y ∈ zW) (hm : Cond.methodLink own idx y ∈ zW) {i a : Nat} (ha : a = 1000 + i) (hi : i < 13) (hq : y.cls = "java/lang/String") (hdd : dd + 1 ≤ d) (hkn : k ≤ C ∧ n ≤ N) (hcon : zC l y (.code y cb nL2 ret) dd (.ref a :: As) Λ σ (fun r : Int32 => some (.int r)) f) (hn : As.length = n9) (hw : (st.map fun v => v.category).sum ≤ 8) (hst : As.reverse ++ .ref a :: st = st0) (hd : decode cc pc = .ok (.invokevirtual idx, 3)) (kk : ∀ (r : Int32) (S : zMem), zE G T enc Λ k n (pc + 3) L (.int r :: st) S (kf r S)) : zE G T enc Λ k n pc L st0 σ (bd f kf) := ze_callT (enc2 := (fun r : Int32 => some (.int r))) h hy hi9 hs9 hm ha hi hq hdd hkn hcon hn hw hst hd kk
theorem ze_callTv {α : Type} {G : zGT} {l : Launch} {cc : ByteArray} {own : String} {nL d C N : Nat} {ini : Bool} {T : Option Value × zMem} {enc : α → Option Value} {Λ : zLay} {k n pc : Nat} {L : zLs} {st : List Value} {σ : zMem} {f : Option (Unit × zMem)} {kf : Unit → zMem → Option (α × zMem)} {st0 As : List Value} {y : MethodName} {cb : ByteArray} {nL2 n9 idx dd : Nat} {ret : Option FieldType} (h : zOk G l cc own nL d C N ini) (hy : zCe y cb nL2 ret n9) (hi9 : Cond.instanceMethod y ∈ zW) (hs9 : Cond.selects y.cls y y ∈ zW) (hm : Cond.methodLink own idx y ∈ zW) {i a : Nat} (ha : a = 1000 + i) (hi : i < 13) (hq : y.cls = "java/lang/String") (hdd : dd + 1 ≤ d) (hkn : k ≤ C ∧ n ≤ N) (hcon : zC l y (.code y cb nL2 ret) dd (.ref a :: As) Λ σ (fun _ : Unit => none) f) (hn : As.length = n9) (hw : (st.map fun v => v.category).sum ≤ 8) (hst : As.reverse ++ .ref a :: st = st0) (hd : decode cc pc = .ok (.invokevirtual idx, 3)) (kk : ∀ (r : Unit) (S : zMem), zE G T enc Λ k n (pc + 3) L (st) S (kf r S)) : zE G T enc Λ k n pc L st0 σ (bd f kf) := ze_callT (enc2 := (fun _ : Unit => none)) h hy hi9 hs9 hm ha hi hq hdd hkn hcon hn hw hst hd kk
theorem ze_callTl {α : Type} {G : zGT} {l : Launch} {cc : ByteArray} {own : String} {nL d C N : Nat} {ini : Bool} {T : Option Value × zMem} {enc : α → Option Value} {Λ : zLay} {k n pc : Nat} {L : zLs} {st : List Value} {σ : zMem} {f : Option (Int64 × zMem)} {kf : Int64 → zMem → Option (α × zMem)} {st0 As : List Value} {y : MethodName} {cb : ByteArray} {nL2 n9 idx dd : Nat} {ret : Option FieldType} (h : zOk G l cc own nL d C N ini) (hy : zCe y cb nL2 ret n9) (hi9 : Cond.instanceMethod y ∈ zW) (hs9 : Cond.selects y.cls y y ∈ zW) (hm : Cond.methodLink own idx y ∈ zW) {i a : Nat} (ha : a = 1000 + i) (hi : i < 13) (hq : y.cls = "java/lang/String") (hdd : dd + 1 ≤ d) (hkn : k ≤ C ∧ n ≤ N) (hcon : zC l y (.code y cb nL2 ret) dd (.ref a :: As) Λ σ (fun r : Int64 => some (.long r)) f) (hn : As.length = n9) (hw : (st.map fun v => v.category).sum ≤ 8) (hst : As.reverse ++ .ref a :: st = st0) (hd : decode cc pc = .ok (.invokevirtual idx, 3)) (kk : ∀ (r : Int64) (S : zMem), zE G T enc Λ k n (pc + 3) L (.long r :: st) S (kf r S)) : zE G T enc Λ k n pc L st0 σ (bd f kf) := ze_callT (enc2 := (fun r : Int64 => some (.long r))) h hy hi9 hs9 hm ha hi hq hdd hkn hcon hn hw hst hd kk
theorem ze_callTr {α : Type} {G : zGT} {l : Launch} {cc : ByteArray} {own : String} {nL d C N : Nat} {ini : Bool} {T : Option Value × zMem} {enc : α → Option Value} {Λ : zLay} {k n pc : Nat} {L : zLs} {st : List Value} {σ : zMem} {f : Option (Nat × zMem)} {kf : Nat → zMem → Option (α × zMem)} {st0 As : List Value} {y : MethodName} {cb : ByteArray} {nL2 n9 idx dd : Nat} {ret : Option FieldType} (h : zOk G l cc own nL d C N ini) (hy : zCe y cb nL2 ret n9) (hi9 : Cond.instanceMethod y ∈ zW) (hs9 : Cond.selects y.cls y y ∈ zW) (hm : Cond.methodLink own idx y ∈ zW) {i a : Nat} (ha : a = 1000 + i) (hi : i < 13) (hq : y.cls = "java/lang/String") (hdd : dd + 1 ≤ d) (hkn : k ≤ C ∧ n ≤ N) (hcon : zC l y (.code y cb nL2 ret) dd (.ref a :: As) Λ σ (fun r : Nat => some (.ref r)) f) (hn : As.length = n9) (hw : (st.map fun v => v.category).sum ≤ 8) (hst : As.reverse ++ .ref a :: st = st0) (hd : decode cc pc = .ok (.invokevirtual idx, 3)) (kk : ∀ (r : Nat) (S : zMem), zE G T enc Λ k n (pc + 3) L (.ref r :: st) S (kf r S)) : zE G T enc Λ k n pc L st0 σ (bd f kf) := ze_callT (enc2 := (fun r : Nat => some (.ref r))) h hy hi9 hs9 hm ha hi hq hdd hkn hcon hn hw hst hd kk
theorem ze_callSi {α : Type} {G : zGT} {l : Launch} {cc : ByteArray} {own : String} {nL d C N : Nat} {ini : Bool} {T : Option Value × zMem} {enc : α → Option Value} {Λ : zLay} {k n pc : Nat} {L : zLs} {st : List Value} {σ : zMem} {f : Option (Int32 × zMem)} {kf : Int32 → zMem → Option (α × zMem)} {st0 As : List Value} {y : MethodName} {cb : ByteArray} {nL2 n9 idx dd : Nat} {ret : Option FieldType} (h : zOk G l cc own nL d C N ini) (hy : zCe y cb nL2 ret n9) (hi9 : Cond.static y ∈ zW) (hm : Cond.methodLink own idx y ∈ zW) (hdd : dd + 1 ≤ d) (hkn : k ≤ C ∧ n ≤ N) (hcon : zC l y (.code y cb nL2 ret) dd As Λ σ (fun r : Int32 => some (.int r)) f) (hn : As.length = n9) (hw : (st.map fun v => v.category).sum ≤ 8) (hst : As.reverse ++ st = st0) (hd : decode cc pc = .ok (.invokestatic idx, 3)) (kk : ∀ (r : Int32) (S : zMem), zE G T enc Λ k n (pc + 3) L (.int r :: st) S (kf r S)) : zE G T enc Λ k n pc L st0 σ (bd f kf) := ze_callS (enc2 := (fun r : Int32 => some (.int r))) h hy hi9 hm hdd hkn hcon hn hw hst hd kk
theorem ze_callSv {α : Type} {G : zGT} {l : Launch} {cc : ByteArray} {own : String} {nL d C N : Nat} {ini : Bool} {T : Option Value × zMem} {enc : α → Option Value} {Λ : zLay} {k n pc : Nat} {L : zLs} {st : List Value} {σ : zMem} {f : Option (Unit × zMem)} {kf : Unit → zMem → Option (α × zMem)} {st0 As : List Value} {y : MethodName} {cb : ByteArray} {nL2 n9 idx dd : Nat} {ret : Option FieldType} (h : zOk G l cc own nL d C N ini) (hy : zCe y cb nL2 ret n9) (hi9 : Cond.static y ∈ zW) (hm : Cond.methodLink own idx y ∈ zW) (hdd : dd + 1 ≤ d) (hkn : k ≤ C ∧ n ≤ N) (hcon : zC l y (.code y cb nL2 ret) dd As Λ σ (fun _ : Unit => none) f) (hn : As.length = n9) (hw : (st.map fun v => v.category).sum ≤ 8) (hst : As.reverse ++ st = st0) (hd : decode cc pc = .ok (.invokestatic idx, 3)) (kk : ∀ (r : Unit) (S : zMem), zE G T enc Λ k n (pc + 3) L (st) S (kf r S)) : zE G T enc Λ k n pc L st0 σ (bd f kf) := ze_callS (enc2 := (fun _ : Unit => none)) h hy hi9 hm hdd hkn hcon hn hw hst hd kk
theorem ze_callSl {α : Type} {G : zGT} {l : Launch} {cc : ByteArray} {own : String} {nL d C N : Nat} {ini : Bool} {T : Option Value × zMem} {enc : α → Option Value} {Λ : zLay} {k n pc : Nat} {L : zLs} {st : List Value} {σ : zMem} {f : Option (Int64 × zMem)} {kf : Int64 → zMem → Option (α × zMem)} {st0 As : List Value} {y : MethodName} {cb : ByteArray} {nL2 n9 idx dd : Nat} {ret : Option FieldType} (h : zOk G l cc own nL d C N ini) (hy : zCe y cb nL2 ret n9) (hi9 : Cond.static y ∈ zW) (hm : Cond.methodLink own idx y ∈ zW) (hdd : dd + 1 ≤ d) (hkn : k ≤ C ∧ n ≤ N) (hcon : zC l y (.code y cb nL2 ret) dd As Λ σ (fun r : Int64 => some (.long r)) f) (hn : As.length = n9) (hw : (st.map fun v => v.category).sum ≤ 8) (hst : As.reverse ++ st = st0) (hd : decode cc pc = .ok (.invokestatic idx, 3)) (kk : ∀ (r : Int64) (S : zMem), zE G T enc Λ k n (pc + 3) L (.long r :: st) S (kf r S)) : zE G T enc Λ k n pc L st0 σ (bd f kf) := ze_callS (enc2 := (fun r : Int64 => some (.long r))) h hy hi9 hm hdd hkn hcon hn hw hst hd kk
theorem ze_callSr {α : Type} {G : zGT} {l : Launch} {cc : ByteArray} {own : String} {nL d C N : Nat} {ini : Bool} {T : Option Value × zMem} {enc : α → Option Value} {Λ : zLay} {k n pc : Nat} {L : zLs} {st : List Value} {σ : zMem} {f : Option (Nat × zMem)} {kf : Nat → zMem → Option (α × zMem)} {st0 As : List Value} {y : MethodName} {cb : ByteArray} {nL2 n9 idx dd : Nat} {ret : Option FieldType} (h : zOk G l cc own nL d C N ini) (hy : zCe y cb nL2 ret n9) (hi9 : Cond.static y ∈ zW) (hm : Cond.methodLink own idx y ∈ zW) (hdd : dd + 1 ≤ d) (hkn : k ≤ C ∧ n ≤ N) (hcon : zC l y (.code y cb nL2 ret) dd As Λ σ (fun r : Nat => some (.ref r)) f) (hn : As.length = n9) (hw : (st.map fun v => v.category).sum ≤ 8) (hst : As.reverse ++ st = st0) (hd : decode cc pc = .ok (.invokestatic idx, 3)) (kk : ∀ (r : Nat) (S : zMem), zE G T enc Λ k n (pc + 3) L (.ref r :: st) S (kf r S)) : zE G T enc Λ k n pc L st0 σ (bd f kf) := ze_callS (enc2 := (fun r : Nat => some (.ref r))) h hy hi9 hm hdd hkn hcon hn hw hst hd kk
theorem ze_callSNi {α : Type} {G : zGT} {l : Launch} {cc : ByteArray} {own : String} {nL d C N : Nat} {ini : Bool} {T : Option Value × zMem} {enc : α → Option Value} {Λ : zLay} {k n pc : Nat} {L : zLs} {st : List Value} {σ : zMem} {f : Option (Int32 × zMem)} {kf : Int32 → zMem → Option (α × zMem)} {st0 As : List Value} {y : MethodName} {cb : ByteArray} {nL2 n9 idx dd : Nat} {ret : Option FieldType} (h : zOk G l cc own nL d C N ini) (hy : zCe y cb nL2 ret n9) (hi9 : Cond.static y ∈ zW) {j : Nat} {host : String} (hm : zNest[j]? = some (own, idx, y, host)) (hdd : dd + 1 ≤ d) (hkn : k ≤ C ∧ n ≤ N) (hcon : zC l y (.code y cb nL2 ret) dd As Λ σ (fun r : Int32 => some (.int r)) f) (hn : As.length = n9) (hw : (st.map fun v => v.category).sum ≤ 8) (hst : As.reverse ++ st = st0) (hd : decode cc pc = .ok (.invokestatic idx, 3)) (kk : ∀ (r : Int32) (S : zMem), zE G T enc Λ k n (pc + 3) L (.int r :: st) S (kf r S)) : zE G T enc Λ k n pc L st0 σ (bd f kf) := ze_callSN (enc2 := (fun r : Int32 => some (.int r))) h hy hi9 hm hdd hkn hcon hn hw hst hd kk
theorem ze_callSNv {α : Type} {G : zGT} {l : Launch} {cc : ByteArray} {own : String} {nL d C N : Nat} {ini : Bool} {T : Option Value × zMem} {enc : α → Option Value} {Λ : zLay} {k n pc : Nat} {L : zLs} {st : List Value} {σ : zMem} {f : Option (Unit × zMem)} {kf : Unit → zMem → Option (α × zMem)} {st0 As : List Value} {y : MethodName} {cb : ByteArray} {nL2 n9 idx dd : Nat} {ret : Option FieldType} (h : zOk G l cc own nL d C N ini) (hy : zCe y cb nL2 ret n9) (hi9 : Cond.static y ∈ zW) {j : Nat} {host : String} (hm : zNest[j]? = some (own, idx, y, host)) (hdd : dd + 1 ≤ d) (hkn : k ≤ C ∧ n ≤ N) (hcon : zC l y (.code y cb nL2 ret) dd As Λ σ (fun _ : Unit => none) f) (hn : As.length = n9) (hw : (st.map fun v => v.category).sum ≤ 8) (hst : As.reverse ++ st = st0) (hd : decode cc pc = .ok (.invokestatic idx, 3)) (kk : ∀ (r : Unit) (S : zMem), zE G T enc Λ k n (pc + 3) L (st) S (kf r S)) : zE G T enc Λ k n pc L st0 σ (bd f kf) := ze_callSN (enc2 := (fun _ : Unit => none)) h hy hi9 hm hdd hkn hcon hn hw hst hd kk
theorem ze_callSNl {α : Type} {G : zGT} {l : Launch} {cc : ByteArray} {own : String} {nL d C N : Nat} {ini : Bool} {T : Option Value × zMem} {enc : α → Option Value} {Λ : zLay} {k n pc : Nat} {L : zLs} {st : List Value} {σ : zMem} {f : Option (Int64 × zMem)} {kf : Int64 → zMem → Option (α × zMem)} {st0 As : List Value} {y : MethodName} {cb : ByteArray} {nL2 n9 idx dd : Nat} {ret : Option FieldType} (h : zOk G l cc own nL d C N ini) (hy : zCe y cb nL2 ret n9) (hi9 : Cond.static y ∈ zW) {j : Nat} {host : String} (hm : zNest[j]? = some (own, idx, y, host)) (hdd : dd + 1 ≤ d) (hkn : k ≤ C ∧ n ≤ N) (hcon : zC l y (.code y cb nL2 ret) dd As Λ σ (fun r : Int64 => some (.long r)) f) (hn : As.length = n9) (hw : (st.map fun v => v.category).sum ≤ 8) (hst : As.reverse ++ st = st0) (hd : decode cc pc = .ok (.invokestatic idx, 3)) (kk : ∀ (r : Int64) (S : zMem), zE G T enc Λ k n (pc + 3) L (.long r :: st) S (kf r S)) : zE G T enc Λ k n pc L st0 σ (bd f kf) := ze_callSN (enc2 := (fun r : Int64 => some (.long r))) h hy hi9 hm hdd hkn hcon hn hw hst hd kk
theorem ze_callSNr {α : Type} {G : zGT} {l : Launch} {cc : ByteArray} {own : String} {nL d C N : Nat} {ini : Bool} {T : Option Value × zMem} {enc : α → Option Value} {Λ : zLay} {k n pc : Nat} {L : zLs} {st : List Value} {σ : zMem} {f : Option (Nat × zMem)} {kf : Nat → zMem → Option (α × zMem)} {st0 As : List Value} {y : MethodName} {cb : ByteArray} {nL2 n9 idx dd : Nat} {ret : Option FieldType} (h : zOk G l cc own nL d C N ini) (hy : zCe y cb nL2 ret n9) (hi9 : Cond.static y ∈ zW) {j : Nat} {host : String} (hm : zNest[j]? = some (own, idx, y, host)) (hdd : dd + 1 ≤ d) (hkn : k ≤ C ∧ n ≤ N) (hcon : zC l y (.code y cb nL2 ret) dd As Λ σ (fun r : Nat => some (.ref r)) f) (hn : As.length = n9) (hw : (st.map fun v => v.category).sum ≤ 8) (hst : As.reverse ++ st = st0) (hd : decode cc pc = .ok (.invokestatic idx, 3)) (kk : ∀ (r : Nat) (S : zMem), zE G T enc Λ k n (pc + 3) L (.ref r :: st) S (kf r S)) : zE G T enc Λ k n pc L st0 σ (bd f kf) := ze_callSN (enc2 := (fun r : Nat => some (.ref r))) h hy hi9 hm hdd hkn hcon hn hw hst hd kk
theorem ze_initI {α : Type} {G : zGT} {l : Launch} {cc : ByteArray} {own : String} {nL d C N : Nat} {ini : Bool} {T : Option Value × zMem} {enc : α → Option Value} {Λ : zLay} {k n pc : Nat} {L : zLs} {st : List Value} {σ : zMem} {f : Option (Unit × zMem)} {kf : Unit → zMem → Option (α × zMem)} {st0 As : List Value} {y : MethodName} {cb : ByteArray} {nL2 n9 idx dd mc ms : Nat} {Λ' : zLay} (h : zOk G l cc own nL d C N ini) (hy : zCe y cb nL2 none n9) (hi9 : Cond.instanceMethod y ∈ zW) (hyn : y.name = "<init>") (hm : Cond.methodLink own idx y ∈ zW) {a : Nat} (hdd : dd + 1 ≤ d) (hkn : k + mc ≤ C ∧ n + ms ≤ N) (hcon : zCI l y (.code y cb nL2 none) dd mc ms (.ref a :: As) Λ σ Λ' f) (hn : As.length = n9) (hw : (st.map fun v => v.category).sum ≤ 8) (hst : As.reverse ++ .ref a :: st = st0) (hd : decode cc pc = .ok (.invokespecial idx, 3)) (kk : ∀ S : zMem, zE G T enc Λ' (k + mc) (n + ms) (pc + 3) L st S (kf () S)) : zE G T enc Λ k n pc L st0 σ (bd f kf) := by
  intro r S h1 h2 h3
  obtain ⟨r2, S2, hf, h1⟩ := zbd h1
  have hM := hcon r2 S2 hf
  have hkk := kk S2 r S h1 h2 h3
  obtain ⟨y1, y2, y3, y4, y5⟩ := hy
  obtain ⟨p, e0, R, s, m, args, below, meth, c, D, cA, b, ext, Q, rfl, hx, hb, hml, hown, hts, hK, hfr, hlo, hC, hN, hini, hbs⟩ := h
  intro H locs ls hP hS hl
  have hR9 : (zroom dd mc ms).frames + 1 ≤ R.frames ∧ 8 + (nL2 + 11) + (zroom dd mc ms).locals ≤ R.locals := ⟨by show dd + 1 ≤ _; omega, by show 8 + (nL2 + 11) + 64 * dd ≤ _; omega⟩
  have hcells : k + mc ≤ R.cells ∧ n + ms ≤ R.slots := ⟨by omega, by omega⟩
  have hW9 : (List.map (fun v => Value.category v) (List.map (zV (zcv b ext)) st)).sum ≤ 8 := by rw [zCat]; exact hw
  have hpre : ∀ U : State, U.heap = H → s.WarmedH U.vm → va_Pc (List.map (zV (zcv b ext)) (.ref a :: As)) (zPre D cA b ext Λ σ) (List.map (zV (zcv b ext)) (.ref a :: As)).toArray U := fun U hU hWm => ⟨rfl, by rw [hU]; exact hP, zKst.go hK (by rw [hU]; exact hS) hWm⟩
  have hrun := va_runI (e := e0) (below := below) (meth := meth) (As := List.map (zV (zcv b ext)) As) (rest := List.map (zV (zcv b ext)) st) (b := zcv b ext a) (g := F0 m pc ls (List.map (zV (zcv b ext)) st0)) (H := H) (locs := locs) (cells := k) (slots := n) (Ts := zW) ⟨hx, hb, hml, hown, hts⟩ (hM D cA b ext) (cwI n9 hts (zgood_cons y1) rfl rfl rfl (hts _ y2) (hts _ hm) (hts _ hi9) hyn ⟨y3.1, y3.2, y4⟩ hR9) ⟨zKst.blind, hpre⟩ rfl (by rw [List.length_map]; exact hn) hl.1 (by subst hst; show List.map (zV (zcv b ext)) _ = _; simp [zV]) (lv_room hW9) hd hcells
  exact zfin hrun hS (fun H1 locs1 hP1 hS1 => hkk H1 locs1 ls hP1 hS1 hl)
theorem ze_initN {α : Type} {G : zGT} {l : Launch} {cc : ByteArray} {own : String} {nL d C N : Nat} {ini : Bool} {T : Option Value × zMem} {enc : α → Option Value} {Λ : zLay} {k n pc : Nat} {L : zLs} {st : List Value} {σ : zMem} {f : Option (Unit × zMem)} {kf : Unit → zMem → Option (α × zMem)} {st0 As : List Value} {y : MethodName} {cb : ByteArray} {nL2 n9 idx dd mc ms : Nat} {Λ' : zLay} (h : zOk G l cc own nL d C N ini) (hy : zCe y cb nL2 none n9) (hi9 : Cond.instanceMethod y ∈ zW) (hyn : y.name = "<init>") {j : Nat} {host : String} (hm : zNest[j]? = some (own, idx, y, host)) {a : Nat} (hdd : dd + 1 ≤ d) (hkn : k + mc ≤ C ∧ n + ms ≤ N) (hcon : zCI l y (.code y cb nL2 none) dd mc ms (.ref a :: As) Λ σ Λ' f) (hn : As.length = n9) (hw : (st.map fun v => v.category).sum ≤ 8) (hst : As.reverse ++ .ref a :: st = st0) (hd : decode cc pc = .ok (.invokespecial idx, 3)) (kk : ∀ S : zMem, zE G T enc Λ' (k + mc) (n + ms) (pc + 3) L st S (kf () S)) : zE G T enc Λ k n pc L st0 σ (bd f kf) := by
  intro r S h1 h2 h3
  obtain ⟨r2, S2, hf, h1⟩ := zbd h1
  have hM := hcon r2 S2 hf
  have hkk := kk S2 r S h1 h2 h3
  obtain ⟨y1, y2, y3, y4, y5⟩ := hy
  obtain ⟨p, e0, R, s, m, args, below, meth, c, D, cA, b, ext, Q, rfl, hx, hb, hml, hown, hts, hK, hfr, hlo, hC, hN, hini, hbs⟩ := h
  intro H locs ls hP hS hl
  have hR9 : (zroom dd mc ms).frames + 1 ≤ R.frames ∧ 8 + (nL2 + 11) + (zroom dd mc ms).locals ≤ R.locals := ⟨by show dd + 1 ≤ _; omega, by show 8 + (nL2 + 11) + 64 * dd ≤ _; omega⟩
  have hcells : k + mc ≤ R.cells ∧ n + ms ≤ R.slots := ⟨by omega, by omega⟩
  have hW9 : (List.map (fun v => Value.category v) (List.map (zV (zcv b ext)) st)).sum ≤ 8 := by rw [zCat]; exact hw
  have hpre : ∀ U : State, U.heap = H → s.WarmedH U.vm → va_Pc (List.map (zV (zcv b ext)) (.ref a :: As)) (zPre D cA b ext Λ σ) (List.map (zV (zcv b ext)) (.ref a :: As)).toArray U := fun U hU hWm => ⟨rfl, by rw [hU]; exact hP, zKst.go hK (by rw [hU]; exact hS) hWm⟩
  have hnest : va_Nw (.methodLinkNest own idx y host) s := hK.2.2.2.2.2.2 j _ hm
  have hrun := va_runIN (e := e0) (below := below) (meth := meth) (As := List.map (zV (zcv b ext)) As) (rest := List.map (zV (zcv b ext)) st) (b := zcv b ext a) (g := F0 m pc ls (List.map (zV (zcv b ext)) st0)) (H := H) (locs := locs) (cells := k) (slots := n) (Ts := zW) ⟨hx, hb, hml, hown, hts⟩ (hM D cA b ext) ⟨va_cnB n9 hts (zgood_cons y1) rfl rfl rfl hnest (hts _ y2) ⟨y3.1, y3.2, y4⟩ hR9, hyn, hts _ hi9⟩ ⟨zKst.blind, hpre⟩ rfl (by rw [List.length_map]; exact hn) hl.1 (by subst hst; show List.map (zV (zcv b ext)) _ = _; simp [zV]) (lv_room hW9) hd hcells
  exact zfin hrun hS (fun H1 locs1 hP1 hS1 => hkk H1 locs1 ls hP1 hS1 hl)
theorem ze_obj {α : Type} {G : zGT} {l : Launch} {cc : ByteArray} {own : String} {nL d C N : Nat} {ini : Bool} {T : Option Value × zMem} {enc : α → Option Value} {Λ : zLay} {k n pc : Nat} {L : zLs} {st : List Value} {σ : zMem} {e : Option (α × zMem)} (h : zOk G l cc own nL d C N ini) {a idx : Nat} (hd1 : 1 ≤ d) (hm : Cond.methodLink own idx Lib.objectInit ∈ zW) (hi9 : Cond.instanceMethod Lib.objectInit ∈ zW) (hc9 : Cond.code Lib.objectInit ⟨#[0xb1]⟩ 1 none ∈ zW) (hw : (st.map fun v => v.category).sum ≤ 8) (hd : decode cc pc = .ok (.invokespecial idx, 3)) (kk : zE G T enc Λ k n (pc + 3) L st σ e) : zE G T enc Λ k n pc L (.ref a :: st) σ e := by
  obtain ⟨p, e0, R, s, m, args, below, meth, c, D, cA, b, ext, Q, rfl, hx, hb, hml, hown, hts, hK, hfr, hlo, hC, hN, hini, hbs⟩ := h
  intro r S h1 h2 h3 H locs ls hP hS hl
  exact W.objInit hx hb hown (hts _ hm) (hts _ hi9) (hts _ hc9) rfl (by rw [hml]; exact hl.1) rfl hd (by omega) (by show 2 * 0 + (List.map (fun v => Value.category v) (List.map (zV (zcv b ext)) st)).sum + 12 ≤ _; rw [zCat]; omega) (kk r S h1 h2 h3 H locs ls hP hS hl)
def zmin (x y : Int32) : Int32 := if y < x then y else x
def zmax (x y : Int32) : Int32 := if x < y then y else x
theorem ze_mmin {α : Type} {G : zGT} {l : Launch} {cc : ByteArray} {own : String} {nL d C N : Nat} {ini : Bool} {T : Option Value × zMem} {enc : α → Option Value} {Λ : zLay} {k n pc : Nat} {L : zLs} {st : List Value} {σ : zMem} {e : Option (α × zMem)} (h : zOk G l cc own nL d C N ini) {x y : Int32} {idx : Nat} (hd1 : 1 ≤ d) (hkn : k ≤ C ∧ n ≤ N) (hm : Cond.methodLink own idx Lib.Math.min.name ∈ zW) (h5 : Cond.static Lib.Math.min.name ∈ zW) (h6 : Cond.initialized "java/lang/Math" ∈ zW) (h7 : Cond.code Lib.Math.min.name Lib.Math.min.code 2 (some .int) ∈ zW) (hw : (st.map fun v => v.category).sum ≤ 8) (hd : decode cc pc = .ok (.invokestatic idx, 3)) (kk : zE G T enc Λ k n (pc + 3) L (.int (zmin x y) :: st) σ e) : zE G T enc Λ k n pc L (.int y :: .int x :: st) σ e := by
  obtain ⟨p, e0, R, s, m, args, below, meth, c, D, cA, b, ext, Q, rfl, hx, hb, hml, hown, hts, hK, hfr, hlo, hC, hN, hini, hbs⟩ := h
  intro r S h1 h2 h3 H locs ls hP hS hl
  exact va_mmin hx hb (hml.trans hl.1.symm) hown (hts _ hm) (hts _ h5) (hts _ h6) (hts _ h7) (by omega) (by rw [zCat]; omega) (by omega) (by omega) hd (kk r S h1 h2 h3 H locs ls hP hS hl)
theorem ze_mmax {α : Type} {G : zGT} {l : Launch} {cc : ByteArray} {own : String} {nL d C N : Nat} {ini : Bool} {T : Option Value × zMem} {enc : α → Option Value} {Λ : zLay} {k n pc : Nat} {L : zLs} {st : List Value} {σ : zMem} {e : Option (α × zMem)} (h : zOk G l cc own nL d C N ini) {x y : Int32} {idx : Nat} (hd1 : 1 ≤ d) (hkn : k ≤ C ∧ n ≤ N) (hm : Cond.methodLink own idx Lib.Math.max.name ∈ zW) (h5 : Cond.static Lib.Math.max.name ∈ zW) (h6 : Cond.initialized "java/lang/Math" ∈ zW) (h7 : Cond.code Lib.Math.max.name Lib.Math.max.code 2 (some .int) ∈ zW) (hw : (st.map fun v => v.category).sum ≤ 8) (hd : decode cc pc = .ok (.invokestatic idx, 3)) (kk : zE G T enc Λ k n (pc + 3) L (.int (zmax x y) :: st) σ e) : zE G T enc Λ k n pc L (.int y :: .int x :: st) σ e := by
  obtain ⟨p, e0, R, s, m, args, below, meth, c, D, cA, b, ext, Q, rfl, hx, hb, hml, hown, hts, hK, hfr, hlo, hC, hN, hini, hbs⟩ := h
  intro r S h1 h2 h3 H locs ls hP hS hl
  exact va_mmax hx hb (hml.trans hl.1.symm) hown (hts _ hm) (hts _ h5) (hts _ h6) (hts _ h7) (by omega) (by rw [zCat]; omega) (by omega) (by omega) hd (kk r S h1 h2 h3 H locs ls hP hS hl)
def zCp (σ : zMem) (a sp b dp n : Nat) : zMem := fun x => if x = b then va_cpy (σ a) (σ b) sp dp n else σ x
def zcpOk (sp dp n : Int32) (n0 n1 : Nat) : Bool := decide (¬ sp < 0) && (decide (¬ dp < 0) && (decide (¬ n < 0) && (decide (zix sp + zix n ≤ n0) && decide (zix dp + zix n ≤ n1))))
theorem ze_copy {α : Type} {G : zGT} {l : Launch} {cc : ByteArray} {own : String} {nL d C N : Nat} {ini : Bool} {T : Option Value × zMem} {enc : α → Option Value} {Λ : zLay} {n pc : Nat} {L : zLs} {st : List Value} {σ : zMem} {e : Option (α × zMem)} (h : zOk G l cc own nL d C N ini) {a b9 n0 n1 idx : Nat} {sp dp n9 : Int32} (hd1 : 1 ≤ d) (h9 : Λ[a]? = some (.inl n0)) (h8 : Λ[b9]? = some (.inl n1)) (hm : Cond.methodLink own idx arraycopyName ∈ zW) (h5 : Cond.native arraycopyName ∈ zW) (h6 : Cond.static arraycopyName ∈ zW) (h7 : Cond.initialized "java/lang/System" ∈ zW) (hw : (st.map fun v => v.category).sum ≤ 8) (hd : decode cc pc = .ok (.invokestatic idx, 3)) (kk : zE G T enc Λ 0 n (pc + 3) L st (zCp σ a (zix sp) b9 (zix dp) (zix n9)) e) : zE G T enc Λ 0 n pc L (.int n9 :: .int dp :: .ref b9 :: .int sp :: .ref a :: st) σ (gd (zcpOk sp dp n9 n0 n1) e) := by
  intro r S h1 h2 h3
  obtain ⟨g1, h1⟩ := zgd h1
  obtain ⟨p, e0, R, s, m, args, below, meth, c, D, cA, b, ext, Q, rfl, hx, hb, hml, hown, hts, hK, hfr, hlo, hC, hN, hini, hbs⟩ := h
  intro H locs ls hP hS hl
  simp only [zcpOk, Bool.and_eq_true, decide_eq_true_eq] at g1
  obtain ⟨w1, w2, w3, w4, w5⟩ := g1
  have hb9 : b9 < Λ.length := (List.getElem?_eq_some_iff.mp h8).1
  refine zW_size hS.1 (fun hz1 => ?_)
  refine va_copyi (D := D) (cl := vwCl) (tys := [(cA, .int)]) hx hb (hml.trans hl.1.symm) hown (hts _ hm) (hts _ h5) (hts _ h6) (hts _ h7) hK.1 hP.1 hP.D hS a b9 0 0 (zWs_at h9) (zWs_at h8) rfl rfl rfl w1 w2 w3 w4 w5 (fun i hi => rfl) (by omega) (by rw [zCat]; show _ + (7 + 11) ≤ _; omega) hd (fun H1 locs1 hP1 hD1 hS1 => ?_)
  refine zW_size hS1.1 (fun hz2 => ?_)
  refine kk r S h1 h2 h3 H1 locs1 ls ⟨?_, by rw [hz2, ← hz1]; exact hP.2.1, hP.2.2⟩ hS1 hl
  have e6 := zWs_set0 (cv := zcv b ext) (cA := cA) (σ := σ) (τ := zCp σ a (zix sp) b9 (zix dp) (zix n9)) (e' := .inl n1) hb9 (fun x hx9 => by simp [zCp, hx9])
  rw [zset_same Λ b9 _ h8] at e6
  rw [← e6]
  have e7 : zCp σ a (zix sp) b9 (zix dp) (zix n9) b9 = va_cpy (σ a) (σ b9) (zix sp) (zix dp) (zix n9) := by simp [zCp]
  rw [e7]
  exact hP1
def zNw (σ : zMem) (a : Nat) : zMem := fun x => if x = a then fun _ => 0 else σ x
theorem zWs_new (cv : Nat → Nat) (cA : ClassId) (σ : zMem) (Λ : zLay) (e : zLE) : zWs cv cA (zNw σ Λ.length) 0 (Λ ++ [e]) = zWs cv cA σ 0 Λ ++ [(cv Λ.length, zCell cv cA (fun _ => 0) e)] := by
  rw [zWs_app, Nat.zero_add]
  have e1 : zNw σ Λ.length Λ.length = fun _ => 0 := by simp [zNw]
  rw [e1, zWs_congr cv cA (zNw σ Λ.length) σ Λ 0 (fun a _ h => by simp [zNw]; omega)]
theorem ze_newa {α : Type} {G : zGT} {l : Launch} {cc : ByteArray} {own : String} {nL d C N : Nat} {ini : Bool} {T : Option Value × zMem} {enc : α → Option Value} {Λ : zLay} {k n pc : Nat} {L : zLs} {st : List Value} {σ : zMem} {e : Option (α × zMem)} (h : zOk G l cc own nL d C N ini) {n9 : Int32} {M a : Nat} (h9 : Cond.arrayClass .int ∈ zW) (hn9 : ¬ n9 < 0) (hM : zix n9 = M) (hbyte : M ≤ 100000000) (ha : Λ.length = a) (ha2 : a < 1000) (hcel : k + 1 ≤ C ∧ n + M ≤ N) (hd : decode cc pc = .ok (.newarray .int, 2)) (kk : zE G T enc (Λ ++ [.inl M]) (k + 1) (n + M) (pc + 2) L (.ref a :: st) (zNw σ a) e) : zE G T enc Λ k n pc L (.int n9 :: st) σ e := by
  obtain ⟨p, e0, R, s, m, args, below, meth, c, D, cA, b, ext, Q, rfl, hx, hb, hml, hown, hts, hK, hfr, hlo, hC, hN, hini, hbs⟩ := h
  intro r S h1 h2 h3 H locs ls hP hS hl
  subst ha
  refine va_newaK hx hb (atype := .int) (hts _ h9) rfl hd rfl hn9 hM (by show M * 4 ≤ _; omega) (by omega) (by omega) rfl fun H1 cA2 e1 z1 o1 hAr hNm => ?_
  have hcA : cA2 = cA := Option.some.inj (hNm.symm.trans (hK.1.2 0 _ rfl).2)
  subst hcA
  have hlen : cA2 = cA2 := rfl
  have hsz : H.size = zcv b ext Λ.length := by rw [hP.2.1, zcv_lt ha2]
  have hP1 : va_P D vwCl (zWs (zcv b ext) cA2 (zNw σ Λ.length) 0 (Λ ++ [.inl M])) H1 := by
    rw [zWs_new]
    refine (hP.1.kept (fun q x hx9 => o1 x.1 ((hP.1 q x hx9).lt))).app (fun q x hx9 => ?_)
    have hz : q < 1 := (List.getElem?_eq_some_iff.mp hx9).1
    rw [show q = 0 by omega] at hx9
    cases hx9
    show H1[zcv b ext Λ.length]? = some (vp_cell _ _)
    rw [← hsz, e1]
    rfl
  have := kk r S h1 h2 h3 H1 locs ls ⟨hP1, by rw [z1, hP.2.1]; simp; omega, by simp; omega⟩ ⟨Nat.le_trans hS.1 (by omega), fun x g1 g2 => (o1 x (Nat.lt_of_lt_of_le g1 hS.1)).trans (hS.2.1 x g1 g2), hS.2.2⟩ hl
  rw [List.map_cons] at this
  show W p l e0 R s m args below meth c H1 locs (k + 1) (n + M) Q (F0 m (pc + 2) ls (.ref H.size :: _))
  rw [hsz]
  exact this
theorem ze_new {α : Type} {G : zGT} {l : Launch} {cc : ByteArray} {own : String} {nL d C N : Nat} {ini : Bool} {T : Option Value × zMem} {enc : α → Option Value} {Λ : zLay} {k n pc : Nat} {L : zLs} {st : List Value} {σ : zMem} {e : Option (α × zMem)} (h : zOk G l cc own nL d C N ini) {ci M a idx : Nat} {fs : List (Option (Option Nat))} {CC : String} {T9 : u_T} (ty : Nat → FieldType) (h9 : vwCl[ci]? = some (CC, T9, M)) (hw1 : ∀ w ∈ u_ws CC T9 M, w ∈ zW) (hty : ∀ q, q < M → parseFieldDescriptor (T9 q).2.2.1 = some (ty q)) (hw2 : Cond.classLink own idx CC ∈ zW) (hw3 : Cond.instantiable CC M ∈ zW) (hw4 : Cond.initialized CC ∈ zW) (hfl : fs.length = M) (hfs : ∀ q, q < M → ∀ t, fs[q]? = some t → defaultValue (ty q) = zFV (fun x => x) 0 t ∧ ∀ w, t ≠ some (some w)) (ha : Λ.length = a) (ha2 : a < 1000) (hcel : k + 1 ≤ C ∧ n + M ≤ N) (hd : decode cc pc = .ok (.new idx, 3)) (kk : zE G T enc (Λ ++ [.inr (ci, fs)]) (k + 1) (n + M) (pc + 3) L (.ref a :: st) (zNw σ a) e) : zE G T enc Λ k n pc L st σ e := by
  obtain ⟨p, e0, R, s, m, args, below, meth, c, D, cA, b, ext, Q, rfl, hx, hb, hml, hown, hts, hK, hfr, hlo, hC, hN, hini, hbs⟩ := h
  intro r S h1 h2 h3 H locs ls hP hS hl
  subst ha
  have hKn := hK.1.1 ci _ h9
  refine W.newcK hx hb hown (hts _ hw2) (hts _ hw3) (hts _ hw4) rfl hd (by omega) (by omega) hKn.2.1 rfl fun H1 kC hkC e1 z1 o1 => ?_
  have hsz : H.size = zcv b ext Λ.length := by rw [hP.2.1, zcv_lt ha2]
  have hP1 : va_P D vwCl (zWs (zcv b ext) cA (zNw σ Λ.length) 0 (Λ ++ [.inr (ci, fs)])) H1 := by
    rw [zWs_new]
    refine (hP.1.kept (fun q x hx9 => o1 x.1 ((hP.1 q x hx9).lt))).app (fun q x hx9 => ?_)
    have hz : q < 1 := (List.getElem?_eq_some_iff.mp hx9).1
    rw [show q = 0 by omega] at hx9
    cases hx9
    refine ⟨_, h9, ?_⟩
    show t_OB (zcv b ext Λ.length) _ _ _ H1 _
    rw [← hsz]
    refine (u_born ty hts hw1 hKn hkC e1 hty).to (fun q hq => ?_)
    show defaultValue (ty q) = (zFs (zcv b ext) (fun _ => 0) 0 fs).getD q .null
    have hq2 : q < fs.length := by rw [hfl]; exact hq
    have hg : fs[q]? = some fs[q] := List.getElem?_eq_getElem hq2
    have hg2 := zFs_get (zcv b ext) (fun _ => (0 : Int32)) fs 0 q _ hg
    obtain ⟨w1, w2⟩ := hfs q hq _ hg
    rw [List.getD_eq_getElem?_getD, hg2, w1]
    cases hh : fs[q] with
    | none => rfl
    | some u => cases u with
      | none => rfl
      | some w => exact absurd hh (w2 w)
  have := kk r S h1 h2 h3 H1 locs ls ⟨hP1, by rw [z1, hP.2.1]; simp; omega, by simp; omega⟩ ⟨Nat.le_trans hS.1 (by omega), fun x g1 g2 => (o1 x (Nat.lt_of_lt_of_le g1 hS.1)).trans (hS.2.1 x g1 g2), hS.2.2⟩ hl
  rw [List.map_cons] at this
  show W p l e0 R s m args below meth c H1 locs (k + 1) (n + M) Q (F0 m (pc + 3) ls (.ref H.size :: _))
  rw [hsz]
  exact this
theorem ze_getsC {α : Type} {G : zGT} {l : Launch} {cc : ByteArray} {own : String} {nL d C N : Nat} {ini : Bool} {T : Option Value × zMem} {enc : α → Option Value} {Λ : zLay} {k n pc : Nat} {L : zLs} {st : List Value} {σ : zMem} {e : Option (α × zMem)} (h : zOk G l cc own nL d C N ini) {idx : Nat} (hm : Cond.fieldLink own idx "java/lang/String" "COMPACT_STRINGS" "Z" ∈ zW) (hd : decode cc pc = .ok (.getstatic idx, 3)) (kk : zE G T enc Λ k n (pc + 3) L (.int 1 :: st) σ e) : zE G T enc Λ k n pc L st σ e := by
  obtain ⟨p, e0, R, s, m, args, below, meth, c, D, cA, b, ext, Q, rfl, hx, hb, hml, hown, hts, hK, hfr, hlo, hC, hN, hini, hbs⟩ := h
  intro r S h1 h2 h3 H locs ls hP hS hl
  exact va_gets hx hb hK.2.2.2.1 hS hown (hts _ hm) (fun _ z => z) hd (kk r S h1 h2 h3 H locs ls hP hS hl)
theorem ze_getsF {α : Type} {G : zGT} {l : Launch} {cc : ByteArray} {own : String} {nL d C N : Nat} {ini : Bool} {T : Option Value × zMem} {enc : α → Option Value} {Λ : zLay} {k n pc : Nat} {L : zLs} {st : List Value} {σ : zMem} {e : Option (α × zMem)} (h : zOk G l cc own nL d C N ini) {idx : Nat} (hm : Cond.fieldLink own idx "jdk/internal/util/Preconditions" "SIOOBE_FORMATTER" "Ljava/util/function/BiFunction;" ∈ zW) (hd : decode cc pc = .ok (.getstatic idx, 3)) (kk : ∀ v : Value, v = .null ∨ v = .ref 1040 → zE G T enc Λ k n (pc + 3) L (v :: st) σ e) : zE G T enc Λ k n pc L st σ e := by
  obtain ⟨p, e0, R, s, m, args, below, meth, c, D, cA, b, ext, Q, rfl, hx, hb, hml, hown, hts, hK, hfr, hlo, hC, hN, hini, hbs⟩ := h
  intro r S h1 h2 h3 H locs ls hP hS hl
  rcases hK.2.2.2.2.1 with h4 | h4
  · exact va_gets hx hb h4 hS hown (hts _ hm) (fun _ z => z) hd (kk .null (Or.inl rfl) r S h1 h2 h3 H locs ls hP hS hl)
  · have := kk (.ref 1040) (Or.inr rfl) r S h1 h2 h3 H locs ls hP hS hl
    exact va_gets hx hb h4 hS hown (hts _ hm) (fun _ z => z) hd this
theorem ze_getsA {α : Type} {G : zGT} {l : Launch} {cc : ByteArray} {own : String} {nL d C N : Nat} {ini : Bool} {T : Option Value × zMem} {enc : α → Option Value} {Λ : zLay} {k n pc : Nat} {L : zLs} {st : List Value} {σ : zMem} {e : Option (α × zMem)} (h : zOk G l cc own nL d C N ini) {idx : Nat} (hm : Cond.fieldLink own idx "CoalIsLent$Kinds" "ABOVE" "[I" ∈ zW) (hd : decode cc pc = .ok (.getstatic idx, 3)) (kk : zE G T enc Λ k n (pc + 3) L (.ref 1041 :: st) σ e) : zE G T enc Λ k n pc L st σ e := by
  obtain ⟨p, e0, R, s, m, args, below, meth, c, D, cA, b, ext, Q, rfl, hx, hb, hml, hown, hts, hK, hfr, hlo, hC, hN, hini, hbs⟩ := h
  intro r S h1 h2 h3 H locs ls hP hS hl
  exact va_gets hx hb hK.2.2.2.2.2.1.1 hS hown (hts _ hm) (fun _ z => z) hd (kk r S h1 h2 h3 H locs ls hP hS hl)
theorem ze_lenA {α : Type} {G : zGT} {l : Launch} {cc : ByteArray} {own : String} {nL d C N : Nat} {ini : Bool} {T : Option Value × zMem} {enc : α → Option Value} {Λ : zLay} {k n pc : Nat} {L : zLs} {st : List Value} {σ : zMem} {e : Option (α × zMem)} (h : zOk G l cc own nL d C N ini) (hd : decode cc pc = .ok (.arraylength, 1)) (kk : zE G T enc Λ k n (pc + 1) L (.int 6 :: st) σ e) : zE G T enc Λ k n pc L (.ref 1041 :: st) σ e := by
  obtain ⟨p, e0, R, s, m, args, below, meth, c, D, cA, b, ext, Q, rfl, hx, hb, hml, hown, hts, hK, hfr, hlo, hC, hN, hini, hbs⟩ := h
  intro r S h1 h2 h3 H locs ls hP hS hl
  exact va_tlen hx hb hK.2.2.2.2.2.1.2 hS rfl hd (kk r S h1 h2 h3 H locs ls hP hS hl)
theorem ze_ialdA {α : Type} {G : zGT} {l : Launch} {cc : ByteArray} {own : String} {nL d C N : Nat} {ini : Bool} {T : Option Value × zMem} {enc : α → Option Value} {Λ : zLay} {k n pc : Nat} {L : zLs} {st : List Value} {σ : zMem} {e : Option (α × zMem)} (h : zOk G l cc own nL d C N ini) {i : Int32} (hd : decode cc pc = .ok (.iaload, 1)) (kk : zE G T enc Λ k n (pc + 1) L (.int (zAb.getD (zix i) 0) :: st) σ e) : zE G T enc Λ k n pc L (.int i :: .ref 1041 :: st) σ (gd (zib i 6) e) := by
  intro r S h1 h2 h3
  obtain ⟨g1, h1⟩ := zgd h1
  obtain ⟨p, e0, R, s, m, args, below, meth, c, D, cA, b, ext, Q, rfl, hx, hb, hml, hown, hts, hK, hfr, hlo, hC, hN, hini, hbs⟩ := h
  intro H locs ls hP hS hl
  exact va_ti hx hb hK.2.2.2.2.2.1.2 hS (zib_in g1) rfl hd (kk r S h1 h2 h3 H locs ls hP hS hl)
theorem ze_ldcS {α : Type} {G : zGT} {l : Launch} {cc : ByteArray} {own : String} {nL d C N : Nat} {ini : Bool} {T : Option Value × zMem} {enc : α → Option Value} {Λ : zLay} {k n pc : Nat} {L : zLs} {st : List Value} {σ : zMem} {e : Option (α × zMem)} (h : zOk G l cc own nL d C N ini) {i : Nat} {q : Nat} {tx : String} (hi : zStr[i]? = some (own, q, tx)) (hd : decode cc pc = .ok (.ldc q, 2)) (kk : zE G T enc Λ k n (pc + 2) L (.ref (1000 + i) :: st) σ e) : zE G T enc Λ k n pc L st σ e := by
  obtain ⟨p, e0, R, s, m, args, below, meth, c, D, cA, b, ext, Q, rfl, hx, hb, hml, hown, hts, hK, hfr, hlo, hC, hN, hini, hbs⟩ := h
  intro r S h1 h2 h3 H locs ls hP hS hl
  have e9 : zcv b ext (1000 + i) = ext i := zcv_ext
  have := kk r S h1 h2 h3 H locs ls hP hS hl
  rw [List.map_cons] at this
  refine va_ldcS hx hb hown (hK.2.2.1 i _ hi) hd ?_
  rw [← e9]
  exact this
theorem ze_getSv {α : Type} {G : zGT} {l : Launch} {cc : ByteArray} {own : String} {nL d C N : Nat} {ini : Bool} {T : Option Value × zMem} {enc : α → Option Value} {Λ : zLay} {k n pc : Nat} {L : zLs} {st : List Value} {σ : zMem} {e : Option (α × zMem)} (h : zOk G l cc own nL d C N ini) {i idx : Nat} (hi : i < 13) (hm : Cond.fieldLink own idx "java/lang/String" "value" "[B" ∈ zW) (hd : decode cc pc = .ok (.getfield idx, 3)) (kk : zE G T enc Λ k n (pc + 3) L (.ref (1020 + i) :: st) σ e) : zE G T enc Λ k n pc L (.ref (1000 + i) :: st) σ e := by
  obtain ⟨p, e0, R, s, m, args, below, meth, c, D, cA, b, ext, Q, rfl, hx, hb, hml, hown, hts, hK, hfr, hlo, hC, hN, hini, hbs⟩ := h
  intro r S h1 h2 h3 H locs ls hP hS hl
  have := kk r S h1 h2 h3 H locs ls hP hS hl
  rw [List.map_cons] at this ⊢
  show W _ _ _ _ _ _ _ _ _ _ _ _ _ _ _ (F0 m pc ls (.ref (zcv b ext (1000 + i)) :: _))
  rw [zcv_ext]
  refine vk_getf hx hb (hK.2.1.1 i hi).2.2.1 hS hown (hts _ hm) (fun _ z => z) hd ?_
  have e8 : zcv b ext (1020 + i) = ext (20 + i) := by rw [show 1020 + i = 1000 + (20 + i) by omega]; exact zcv_ext
  change W _ _ _ _ _ _ _ _ _ _ _ _ _ _ _ (F0 m (pc + 3) ls (.ref (zcv b ext (1020 + i)) :: _)) at this
  rw [e8] at this
  exact this
theorem ze_getSc {α : Type} {G : zGT} {l : Launch} {cc : ByteArray} {own : String} {nL d C N : Nat} {ini : Bool} {T : Option Value × zMem} {enc : α → Option Value} {Λ : zLay} {k n pc : Nat} {L : zLs} {st : List Value} {σ : zMem} {e : Option (α × zMem)} (h : zOk G l cc own nL d C N ini) {i idx : Nat} (hi : i < 13) (hm : Cond.fieldLink own idx "java/lang/String" "coder" "B" ∈ zW) (hd : decode cc pc = .ok (.getfield idx, 3)) (kk : zE G T enc Λ k n (pc + 3) L (.int 0 :: st) σ e) : zE G T enc Λ k n pc L (.ref (1000 + i) :: st) σ e := by
  obtain ⟨p, e0, R, s, m, args, below, meth, c, D, cA, b, ext, Q, rfl, hx, hb, hml, hown, hts, hK, hfr, hlo, hC, hN, hini, hbs⟩ := h
  intro r S h1 h2 h3 H locs ls hP hS hl
  have := kk r S h1 h2 h3 H locs ls hP hS hl
  rw [List.map_cons] at this ⊢
  show W _ _ _ _ _ _ _ _ _ _ _ _ _ _ _ (F0 m pc ls (.ref (zcv b ext (1000 + i)) :: _))
  rw [zcv_ext]
  refine vk_getf hx hb (hK.2.1.1 i hi).2.1 hS hown (hts _ hm) (fun _ z => z) hd ?_
  skip
  exact this
theorem ze_lenB {α : Type} {G : zGT} {l : Launch} {cc : ByteArray} {own : String} {nL d C N : Nat} {ini : Bool} {T : Option Value × zMem} {enc : α → Option Value} {Λ : zLay} {k n pc : Nat} {L : zLs} {st : List Value} {σ : zMem} {e : Option (α × zMem)} (h : zOk G l cc own nL d C N ini) {i : Nat} {v : Int32} (hi : i < 13) (hv : Int32.ofNat (zLen.getD i 0) = v) (hd : decode cc pc = .ok (.arraylength, 1)) (kk : zE G T enc Λ k n (pc + 1) L (.int v :: st) σ e) : zE G T enc Λ k n pc L (.ref (1020 + i) :: st) σ e := by
  obtain ⟨p, e0, R, s, m, args, below, meth, c, D, cA, b, ext, Q, rfl, hx, hb, hml, hown, hts, hK, hfr, hlo, hC, hN, hini, hbs⟩ := h
  intro r S h1 h2 h3 H locs ls hP hS hl
  show W _ _ _ _ _ _ _ _ _ _ _ _ _ _ _ (F0 m pc ls (.ref (zcv b ext (1020 + i)) :: _))
  rw [show 1020 + i = 1000 + (20 + i) by omega, zcv_ext]
  exact va_tlen hx hb (hK.2.1.1 i hi).2.2.2 hS hv hd (kk r S h1 h2 h3 H locs ls hP hS hl)
theorem ze_bald {α : Type} {G : zGT} {l : Launch} {cc : ByteArray} {own : String} {nL d C N : Nat} {ini : Bool} {T : Option Value × zMem} {enc : α → Option Value} {Λ : zLay} {k n pc : Nat} {L : zLs} {st : List Value} {σ : zMem} {e : Option (α × zMem)} (h : zOk G l cc own nL d C N ini) {i : Nat} {j : Int32} (hi : i < 13) (hd : decode cc pc = .ok (.baload, 1)) (kk : zE G T enc Λ k n (pc + 1) L (.int ((zByt.getD i []).getD (zix j) 0) :: st) σ e) : zE G T enc Λ k n pc L (.int j :: .ref (1020 + i) :: st) σ (gd (zib j (zLen.getD i 0)) e) := by
  intro r S h1 h2 h3
  obtain ⟨g1, h1⟩ := zgd h1
  obtain ⟨p, e0, R, s, m, args, below, meth, c, D, cA, b, ext, Q, rfl, hx, hb, hml, hown, hts, hK, hfr, hlo, hC, hN, hini, hbs⟩ := h
  intro H locs ls hP hS hl
  show W _ _ _ _ _ _ _ _ _ _ _ _ _ _ _ (F0 m pc ls (.int j :: .ref (zcv b ext (1020 + i)) :: _))
  rw [show 1020 + i = 1000 + (20 + i) by omega, zcv_ext]
  exact va_tb hx hb (hK.2.1.1 i hi).2.2.2 hS (zib_in g1) rfl hd (kk r S h1 h2 h3 H locs ls hP hS hl)
theorem ze_iincN {α : Type} {G : zGT} {l : Launch} {cc : ByteArray} {own : String} {nL d C N : Nat} {ini : Bool} {T : Option Value × zMem} {enc : α → Option Value} {Λ : zLay} {k n pc : Nat} {L : zLs} {st : List Value} {σ : zMem} {ee : Int32 → Option (α × zMem)} (h : zOk G l cc own nL d C N ini) {i : Nat} {q : Int} {x : Int32} (L' : Int32 → zLs) (w : Int32) (hd : decode cc pc = .ok (.iinc i q, 3)) (hL : L[i]? = some (some (.int x))) (hv : Int32.ofInt q = w) (hn : zNl L i = true) (hlt : i < nL) (hs : ∀ v : Int32, L.set i (some (.int v)) = L' v) (kk : ∀ v : Int32, zE G T enc Λ k n (pc + 3) (L' v) st σ (ee v)) : zE G T enc Λ k n pc L st σ (nm (x + w) ee) := ze_iinc h (x + w) (L' (x + w)) hd hL (by rw [hv]) hn hlt (hs _) (kk (x + w))
theorem ze_none {α : Type} {G : zGT} {T : Option Value × zMem} {enc : α → Option Value} {Λ : zLay} {k n pc : Nat} {L : zLs} {st : List Value} {σ : zMem} : zE G T enc Λ k n pc L st σ none := fun _ _ q => by cases q
theorem ze_pc {α : Type} {G : zGT} {T : Option Value × zMem} {enc : α → Option Value} {Λ : zLay} {k n pc : Nat} {L : zLs} {st : List Value} {σ : zMem} {e : Option (α × zMem)} (pc' : Nat) (hp : pc = pc') (kk : zE G T enc Λ k n pc' L st σ e) : zE G T enc Λ k n pc L st σ e := by rw [hp]; exact kk
def zch (x : Int32) : Bool := decide ((x.toUInt32 % 65536).toInt32 = x)
theorem ze_cretG {G : zGT} {T : Option Value × zMem} {cc : ByteArray} {Λ : zLay} {k n pc : Nat} {L : zLs} {σ : zMem} {x : Int32} (hR : zR G cc (some .char) T Λ k n) (hd : decode cc pc = .ok (.ireturn, 1)) : zE G T (fun r : Int32 => some (.int r)) Λ k n pc L [.int x] σ (gd (zch x) (some (x, σ))) := fun r S h1 h2 h3 => ze_zret hR (show Value.int (x.toUInt32 % 65536).toInt32 = .int x by rw [of_decide_eq_true (zgd h1).1]) hd r S (zgd h1).2 h2 h3
theorem ze_aretU {G : zGT} {T : Option Value × zMem} {cc : ByteArray} {Λ : zLay} {k n pc : Nat} {L : zLs} {σ : zMem} {q : Nat} {nm9 : String} (hR : zR G cc (some (.object nm9)) T Λ k n) (hd : decode cc pc = .ok (.areturn, 1)) : zE G T (fun _ : Unit => some (.ref q)) Λ k n pc L [.ref q] σ (some ((), σ)) := by
  intro r S h1 h2 h3
  cases h1
  rw [h3]
  exact hR.2.2.2 pc L q nm9 hd rfl h2.symm
theorem ze_callVu {α : Type} {G : zGT} {l : Launch} {cc : ByteArray} {own : String} {nL d C N : Nat} {ini : Bool} {T : Option Value × zMem} {enc : α → Option Value} {Λ : zLay} {k n pc : Nat} {L : zLs} {st : List Value} {σ : zMem} {q8 : Nat} {f : Option (Unit × zMem)} {kf : Unit → zMem → Option (α × zMem)} {st0 As : List Value} {y : MethodName} {cb : ByteArray} {nL2 n9 idx dd : Nat} {ret : Option FieldType} (h : zOk G l cc own nL d C N ini) (hy : zCe y cb nL2 ret n9) (hi9 : Cond.instanceMethod y ∈ zW) (hs9 : Cond.selects y.cls y y ∈ zW) (hm : Cond.methodLink own idx y ∈ zW) {a ci : Nat} {fs : List (Option (Option Nat))} {q9 : vw_C} (h9 : Λ[a]? = some (.inr (ci, fs))) (hc : vwCl[ci]? = some q9) (hq : q9.1 = y.cls) (hdd : dd + 1 ≤ d) (hkn : k ≤ C ∧ n ≤ N) (hcon : zC l y (.code y cb nL2 ret) dd (.ref a :: As) Λ σ (fun _ : Unit => some (Value.ref q8)) f) (hn : As.length = n9) (hw : (st.map fun v => v.category).sum ≤ 8) (hst : As.reverse ++ .ref a :: st = st0) (hd : decode cc pc = .ok (.invokevirtual idx, 3)) (kk : ∀ (r : Unit) (S : zMem), zE G T enc Λ k n (pc + 3) L (.ref q8 :: st) S (kf r S)) : zE G T enc Λ k n pc L st0 σ (bd f kf) := ze_callV (enc2 := (fun _ : Unit => some (Value.ref q8))) h hy hi9 hs9 hm h9 hc hq hdd hkn hcon hn hw hst hd kk
theorem ze_lam {α : Type} {G : zGT} {T : Option Value × zMem} {enc : α → Option Value} {Λ : zLay} {k n pc : Nat} {L : zLs} {st : List Value} {σ : zMem} {e : Option (α × zMem)} (Λ' : zLay) (k' n' : Nat) (e1 : Λ = Λ') (e2 : k = k') (e3 : n = n') (kk : zE G T enc Λ' k' n' pc L st σ e) : zE G T enc Λ k n pc L st σ e := by subst e1; subst e2; subst e3; exact kk
def zSc (G : zGT) (cc : ByteArray) (xs : Nat → Int32) (L9 : Nat) : Prop := (∀ (pc : Nat) (L : zLs) (st : List Value) (Λ : zLay) (σ : zMem) (k n : Nat), decode cc pc = .ok (.arraylength, 1) → G (pc + 1) L (.int (nI L9) :: st) Λ σ k n → G pc L (.ref 1050 :: st) Λ σ k n) ∧ (∀ (pc : Nat) (L : zLs) (st : List Value) (Λ : zLay) (σ : zMem) (k n : Nat) (i : Int32), vp_in i L9 → decode cc pc = .ok (.iaload, 1) → G (pc + 1) L (.int (xs (zix i)) :: st) Λ σ k n → G pc L (.int i :: .ref 1050 :: st) Λ σ k n)
theorem ze_slen {α : Type} {G : zGT} {cc : ByteArray} {T : Option Value × zMem} {enc : α → Option Value} {Λ : zLay} {k n pc : Nat} {L : zLs} {st : List Value} {σ : zMem} {e : Option (α × zMem)} {xs : Nat → Int32} {L9 : Nat} (h : zSc G cc xs L9) (hd : decode cc pc = .ok (.arraylength, 1)) (kk : zE G T enc Λ k n (pc + 1) L (.int (nI L9) :: st) σ e) : zE G T enc Λ k n pc L (.ref 1050 :: st) σ e := fun r S h1 h2 h3 => h.1 pc L st Λ σ k n hd (kk r S h1 h2 h3)
theorem ze_sald {α : Type} {G : zGT} {cc : ByteArray} {T : Option Value × zMem} {enc : α → Option Value} {Λ : zLay} {k n pc : Nat} {L : zLs} {st : List Value} {σ : zMem} {e : Option (α × zMem)} {xs : Nat → Int32} {L9 : Nat} (h : zSc G cc xs L9) {i : Int32} (hd : decode cc pc = .ok (.iaload, 1)) (kk : zE G T enc Λ k n (pc + 1) L (.int (xs (zix i)) :: st) σ e) : zE G T enc Λ k n pc L (.int i :: .ref 1050 :: st) σ (gd (zib i L9) e) := fun r S h1 h2 h3 => h.2 pc L st Λ σ k n i (zib_in (zgd h1).1) hd (kk r S (zgd h1).2 h2 h3)
