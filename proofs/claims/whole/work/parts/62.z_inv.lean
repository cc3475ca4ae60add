-- reading a text leaves the codes of the texts before as they were
def pI (K : Nat) (G : Nat → Int32) (s : zMem) : Prop := s 47 14 = nI K ∧ K < 6 ∧ (∃ n, n ≤ 1200 ∧ s 47 31 = nI n) ∧ ∀ k, k < 200 * K → s 56 k = G k
theorem pI.up {K : Nat} {G : Nat → Int32} {s : zMem} {a k : Nat} {v : Int32} (h : pI K G s) (hn : ¬ ((a = 47 ∧ (k = 14 ∨ k = 31)) ∨ a = 56)) : pI K G (zUp s a k v) := by
  obtain ⟨h1, hK, ⟨n, hn1, h2⟩, h3⟩ := h
  exact ⟨by rw [zUp_off (by omega), h1], hK, ⟨n, hn1, by rw [zUp_off (by omega), h2]⟩, fun k hk => by rw [zUp_off (by omega), h3 k hk]⟩
def zI {α : Type} (K : Nat) (G : Nat → Int32) (e : Option (α × zMem)) : Prop := ∀ r S, e = some (r, S) → pI K G S
theorem zi_none {α : Type} {K : Nat} {G : Nat → Int32} : zI K G (none : Option (α × zMem)) := fun _ _ h => by cases h
theorem zi_some {α : Type} {K : Nat} {G : Nat → Int32} {r : α} {s : zMem} (h : pI K G s) : zI K G (some (r, s)) := fun _ _ q => by cases q; exact h
theorem zi_gd {α : Type} {K : Nat} {G : Nat → Int32} {c : Bool} {e : Option (α × zMem)} (h : zI K G e) : zI K G (gd c e) := fun r S q => h r S (zgd q).2
theorem zi_nmV {α : Type} {K : Nat} {G : Nat → Int32} {x : Int32} {e : Int32 → Option (α × zMem)} (h : ∀ y, zI K G (e y)) : zI K G (nm x e) := h x
theorem zi_nmM {α : Type} {K : Nat} {G : Nat → Int32} {x : zMem} {e : zMem → Option (α × zMem)} (hx : pI K G x) (h : ∀ s : zMem, pI K G s → zI K G (e s)) : zI K G (nm x e) := h x hx
theorem zi_ite {α : Type} {K : Nat} {G : Nat → Int32} {c : Prop} [Decidable c] {e1 e2 : Option (α × zMem)} (h1 : zI K G e1) (h2 : zI K G e2) : zI K G (if c then e1 else e2) := by
  by_cases q : c
  · rw [if_pos q]; exact h1
  · rw [if_neg q]; exact h2
theorem zi_bd {α β : Type} {K : Nat} {G : Nat → Int32} {m : Option (α × zMem)} {f : α → zMem → Option (β × zMem)} (h1 : zI K G m) (h2 : ∀ r (s : zMem), pI K G s → zI K G (f r s)) : zI K G (bd m f) := by
  intro r S q
  obtain ⟨r2, S2, e1, e2⟩ := zbd q
  exact h2 r2 S2 (h1 r2 S2 e1) r S e2
theorem zi_fr {α : Type} {K : Nat} {G : Nat → Int32} {s : zMem} {e : Option (α × zMem)} (h : pI K G s) (hf : ∀ a k v, (a = 47 ∧ (k = 14 ∨ k = 31)) ∨ a = 56 → s a k = v → zFp a k v e) : zI K G e := by
  intro r S q
  obtain ⟨h1, hK, ⟨n, hn1, h2⟩, h3⟩ := h
  exact ⟨hf 47 14 _ (by omega) h1 r S q, hK, ⟨n, hn1, hf 47 31 _ (by omega) h2 r S q⟩, fun k hk => hf 56 k _ (by omega) (h3 k hk) r S q⟩
theorem iv_X7_next {K : Nat} {G : Nat → Int32} {s : zMem} (h : pI K G s) : zI K G (f_X7_next s) := zi_fr h (fun a k v hk e => fr_X7_next a k (by omega) e)
theorem iv_X7_rank {K : Nat} {G : Nat → Int32} {p1 : Int32} {s : zMem} (h : pI K G s) : zI K G (f_X7_rank p1 s) := zi_fr h (fun a k v hk e => fr_X7_rank a k id e)
theorem iv_X7_signOf {K : Nat} {G : Nat → Int32} {s : zMem} (h : pI K G s) : zI K G (f_X7_signOf s) := zi_fr h (fun a k v hk e => fr_X7_signOf a k id e)
theorem iv_X7_holds {K : Nat} {G : Nat → Int32} {p1 : Int32} {s : zMem} (h : pI K G s) : zI K G (f_X7_holds p1 s) := zi_fr h (fun a k v hk e => fr_X7_holds a k (by omega) e)
theorem iv_X7_opensOne {K : Nat} {G : Nat → Int32} {p1 : Int32} {s : zMem} (h : pI K G s) : zI K G (f_X7_opensOne p1 s) := zi_fr h (fun a k v hk e => fr_X7_opensOne a k (by omega) e)
theorem iv_X7_puts {K : Nat} {G : Nat → Int32} {p1 : Int32} {s : zMem} (h : pI K G s) : zI K G (f_X7_puts p1 s) := by
  obtain ⟨h1, hK, ⟨n, hn1, h2⟩, h3⟩ := h
  intro r S q
  unfold f_X7_puts at q
  have e : (200 : Int32) * nI K + nI n = nI (200 * K + n) := by rw [show (200 : Int32) = nI 200 from rfl, nI_mul, nI_add]
  rw [h1, h2, e] at q
  obtain ⟨g, q⟩ := zgd q
  have hx : zix (nI (200 * K + n)) = 200 * K + n := zix_nI (by omega)
  have hb : 200 * K + n < 1200 := by
    simp only [zib, Bool.and_eq_true, decide_eq_true_eq, hx] at g
    exact g.2
  rw [nm_eq, nm_eq, hx, zUp_off (by omega), h2, nI_1] at q
  cases q
  exact ⟨by rw [zUp_off (by omega), zUp_off (by omega), h1], hK, ⟨n + 1, by omega, by rw [zUp_hit]⟩, fun k hk => by rw [zUp_off (by omega), zUp_off (by omega), h3 k hk]⟩
theorem iv_X7_unwinds_0 {K : Nat} {G : Nat → Int32} : ∀ {n : Nat} {x1 : Int32} {s : zMem}, pI K G s → zI K G (f_X7_unwinds_0 n x1 s) := by
  intro n
  induction n with
  | zero => intros; exact zi_none
  | succ n ih =>
    intros
    rw [f_X7_unwinds_0]
    repeat' (first
      | with_reducible exact zi_none
      | (with_reducible refine zi_some ?_); assumption
      | with_reducible assumption
      | exact pI.up (by assumption) (by omega)
      | with_reducible apply zi_nmM
      | with_reducible apply zi_nmV
      | with_reducible apply zi_gd
      | with_reducible apply zi_ite
      | with_reducible apply zi_bd
      | with_reducible apply ih
      | with_reducible apply iv_X7_puts
      | with_reducible apply iv_X7_rank
      | intro _
      )
theorem iv_X7_unwinds {K : Nat} {G : Nat → Int32} {p1 : Int32} {s : zMem} (h : pI K G s) : zI K G (f_X7_unwinds p1 s) := by
  unfold f_X7_unwinds
  repeat' (first
    | with_reducible exact zi_none
    | (with_reducible refine zi_some ?_); assumption
    | with_reducible assumption
    | exact pI.up (by assumption) (by omega)
    | with_reducible apply zi_nmM
    | with_reducible apply zi_nmV
    | with_reducible apply zi_gd
    | with_reducible apply zi_ite
    | with_reducible apply zi_bd
    | with_reducible apply iv_X7_unwinds_0
    | intro _
    )
theorem iv_X7_between_17 {K : Nat} {G : Nat → Int32} {x5 : Int32} {t6 : Int32} {s : zMem} (h : pI K G s) : zI K G (f_X7_between_17 x5 t6 s) := by
  unfold f_X7_between_17
  repeat' (first
    | with_reducible exact zi_none
    | (with_reducible refine zi_some ?_); assumption
    | with_reducible assumption
    | exact pI.up (by assumption) (by omega)
    | with_reducible apply zi_nmM
    | with_reducible apply zi_nmV
    | with_reducible apply zi_gd
    | with_reducible apply zi_ite
    | with_reducible apply zi_bd
    | with_reducible apply iv_X7_unwinds
    | with_reducible apply iv_X7_rank
    | with_reducible apply iv_X7_holds
    | intro _
    )
theorem iv_X7_between {K : Nat} {G : Nat → Int32} {p1 : Int32} {s : zMem} (h : pI K G s) : zI K G (f_X7_between p1 s) := by
  unfold f_X7_between
  repeat' (first
    | with_reducible exact zi_none
    | (with_reducible refine zi_some ?_); assumption
    | with_reducible assumption
    | exact pI.up (by assumption) (by omega)
    | with_reducible apply zi_nmM
    | with_reducible apply zi_nmV
    | with_reducible apply zi_gd
    | with_reducible apply zi_ite
    | with_reducible apply zi_bd
    | with_reducible apply iv_X7_rank
    | with_reducible apply iv_X7_between_17
    | intro _
    )
theorem iv_X7_eRead_38 {K : Nat} {G : Nat → Int32} {c14 : Int32 → Int32 → zMem → Option (Int32 × zMem)} (hc14 : ∀ (y0 : Int32) (y1 : Int32) (s9 : zMem), pI K G s9 → zI K G (c14 y0 y1 s9)) {x18 : Int32} {s : zMem} (h : pI K G s) : zI K G (f_X7_eRead_38 c14 x18 s) := by
  unfold f_X7_eRead_38
  repeat' (first
    | with_reducible exact zi_none
    | (with_reducible refine zi_some ?_); assumption
    | with_reducible assumption
    | exact pI.up (by assumption) (by omega)
    | with_reducible apply zi_nmM
    | with_reducible apply zi_nmV
    | with_reducible apply zi_gd
    | with_reducible apply zi_ite
    | with_reducible apply zi_bd
    | with_reducible apply hc14
    | with_reducible apply iv_X7_between
    | with_reducible apply iv_X7_next
    | with_reducible apply iv_X7_opensOne
    | with_reducible apply iv_X7_puts
    | with_reducible apply iv_X7_signOf
    | with_reducible apply iv_X7_unwinds
    | intro _
    )
theorem iv_X7_eRead_99 {K : Nat} {G : Nat → Int32} {c14 : Int32 → Int32 → zMem → Option (Int32 × zMem)} (hc14 : ∀ (y0 : Int32) (y1 : Int32) (s9 : zMem), pI K G s9 → zI K G (c14 y0 y1 s9)) {x31 : Int32} {s : zMem} (h : pI K G s) : zI K G (f_X7_eRead_99 c14 x31 s) := by
  unfold f_X7_eRead_99
  repeat' (first
    | with_reducible exact zi_none
    | (with_reducible refine zi_some ?_); assumption
    | with_reducible assumption
    | exact pI.up (by assumption) (by omega)
    | with_reducible apply zi_nmM
    | with_reducible apply zi_nmV
    | with_reducible apply zi_gd
    | with_reducible apply zi_ite
    | with_reducible apply zi_bd
    | with_reducible apply hc14
    | with_reducible apply iv_X7_between
    | with_reducible apply iv_X7_next
    | with_reducible apply iv_X7_opensOne
    | with_reducible apply iv_X7_puts
    | with_reducible apply iv_X7_signOf
    | with_reducible apply iv_X7_unwinds
    | intro _
    )
theorem iv_X7_eRead_14 {K : Nat} {G : Nat → Int32} {c159 : zMem → Option (Int32 × zMem)} (hc159 : ∀ (s9 : zMem), pI K G s9 → zI K G (c159 s9)) : ∀ {n : Nat} {x3 : Int32} {x4 : Int32} {s : zMem}, pI K G s → zI K G (f_X7_eRead_14 c159 n x3 x4 s) := by
  intro n
  induction n with
  | zero => intros; exact zi_none
  | succ n ih =>
    intros
    rw [f_X7_eRead_14]
    repeat' (first
      | with_reducible exact zi_none
      | (with_reducible refine zi_some ?_); assumption
      | with_reducible assumption
      | exact pI.up (by assumption) (by omega)
      | with_reducible apply zi_nmM
      | with_reducible apply zi_nmV
      | with_reducible apply zi_gd
      | with_reducible apply zi_ite
      | with_reducible apply zi_bd
      | with_reducible apply ih
      | with_reducible apply hc159
      | with_reducible apply iv_X7_between
      | with_reducible apply iv_X7_next
      | with_reducible apply iv_X7_opensOne
      | with_reducible apply iv_X7_puts
      | with_reducible apply iv_X7_signOf
      | with_reducible apply iv_X7_unwinds
      | with_reducible apply iv_X7_eRead_38
      | with_reducible apply iv_X7_eRead_99
      | intro _
      )
theorem iv_X7_eRead {K : Nat} {G : Nat → Int32} {s : zMem} (h : pI K G s) : zI K G (f_X7_eRead s) := by
  unfold f_X7_eRead
  repeat' (first
    | with_reducible exact zi_none
    | (with_reducible refine zi_some ?_); assumption
    | with_reducible assumption
    | exact pI.up (by assumption) (by omega)
    | with_reducible apply zi_nmM
    | with_reducible apply zi_nmV
    | with_reducible apply zi_gd
    | with_reducible apply zi_ite
    | with_reducible apply zi_bd
    | with_reducible apply iv_X7_between
    | with_reducible apply iv_X7_next
    | with_reducible apply iv_X7_opensOne
    | with_reducible apply iv_X7_puts
    | with_reducible apply iv_X7_signOf
    | with_reducible apply iv_X7_unwinds
    | with_reducible apply iv_X7_eRead_14
    | intro _
    )
