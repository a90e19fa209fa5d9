/-! ===== the class's world: cell 0 the object; 4 g + 1 .. 4 g + 4 for g < 10 a State (live 0, before 1, the ring's 2 ..): itself, its soft row, its Code, the Code's terms; 41 Past, 42 its ring; 43 Text, 44 its bytes; 45 Ballot; 46 Halver, 47 its rows, 48 .. 53 these; 54 Merits, 55 its sums; 56 Walk, 57 its steps ===== -/
def cSt (g : Nat) : Nat := 4 * g + 1
def cSo (g : Nat) : Nat := 4 * g + 2
def cCo (g : Nat) : Nat := 4 * g + 3
def cTe (g : Nat) : Nat := 4 * g + 4
def wC_E (cI cB cS cR : ClassId) (ad : Nat → Nat) (q : Nat) (r : Nat → Int32) : va_E :=
  if q = 0 then .inr (8, [.ref (ad (cSt 0)), .ref (ad (cSt 1)), .ref (ad 41), .ref (ad 43), .ref (ad 45), .ref (ad 46), .ref (ad 54), .ref (ad 56), .int (r 8), .int (r 9), .int (r 10)])
  else if q < 41 then (if q % 4 = 1 then .inr (5, [.ref (ad (q + 2)), .ref (ad (q + 1)), .int (r 2)]) else if q % 4 = 2 then .inl (cI, 32, .inl r) else if q % 4 = 3 then .inr (1, [.int (r 0), .int (r 1), .int (r 2), .int (r 3), .ref (ad (q + 1))]) else .inl (cI, 32, .inl r))
  else if q = 41 then .inr (4, [.ref (ad 42), .int (r 1), .int (r 2)])
  else if q = 42 then .inl (cS, 8, .inr (.inr (.inr (.inr (fun i => some (ad (cSt (2 + i))))))))
  else if q = 43 then .inr (6, [.ref (ad 44), .int (r 1), .int (r 2), .int (r 3)])
  else if q = 44 then .inl (cB, 120, .inl r)
  else if q = 45 then .inr (0, [.int (r 0), .int (r 1), .int (r 2), .int (r 3), .int (r 4)])
  else if q = 46 then .inr (2, [.ref (ad 47)])
  else if q = 47 then .inl (cR, 6, .inr (.inr (.inr (.inr (fun i => some (ad (48 + i)))))))
  else if q < 54 then .inl (cI, 32, .inl r)
  else if q = 54 then .inr (3, [.ref (ad 55)])
  else if q = 55 then .inl (cI, 1024, .inl r)
  else if q = 56 then .inr (7, [.ref (ad 57), .int (r 1), .int (r 2), .int (r 3), .int (r 4), .int (r 5)])
  else .inl (cI, 16, .inl r)
section WCE
variable {cI cB cS cR : ClassId} {ad : Nat → Nat} {g k : Nat}
theorem lt_st (hg : g < 10) : cSt g < 58 := by unfold cSt; omega
theorem lt_so (hg : g < 10) : cSo g < 58 := by unfold cSo; omega
theorem lt_co (hg : g < 10) : cCo g < 58 := by unfold cCo; omega
theorem lt_te (hg : g < 10) : cTe g < 58 := by unfold cTe; omega
theorem lt_ro (hk : k < 6) : 48 + k < 58 := by omega
theorem lt_ri (hk : k < 8) : 2 + k < 10 := by omega
theorem vp_lt {i : Int32} {n : Nat} (h : vp_in i n) : i.toNatClampNeg < n := Nat.not_le.mp fun q => h (Or.inr q)
theorem eC_0 (r : Nat → Int32) : wC_E cI cB cS cR ad 0 r = .inr (8, [.ref (ad (cSt 0)), .ref (ad (cSt 1)), .ref (ad 41), .ref (ad 43), .ref (ad 45), .ref (ad 46), .ref (ad 54), .ref (ad 56), .int (r 8), .int (r 9), .int (r 10)]) := rfl
theorem eC_st (hg : g < 10) (r : Nat → Int32) : wC_E cI cB cS cR ad (cSt g) r = .inr (5, [.ref (ad (cCo g)), .ref (ad (cSo g)), .int (r 2)]) := by
  unfold wC_E cSt cCo cSo
  rw [if_neg (by omega), if_pos (by omega), if_pos (by omega)]
theorem eC_so (hg : g < 10) (r : Nat → Int32) : wC_E cI cB cS cR ad (cSo g) r = .inl (cI, 32, .inl r) := by
  unfold wC_E cSo
  rw [if_neg (by omega), if_pos (by omega), if_neg (by omega), if_pos (by omega)]
theorem eC_co (hg : g < 10) (r : Nat → Int32) : wC_E cI cB cS cR ad (cCo g) r = .inr (1, [.int (r 0), .int (r 1), .int (r 2), .int (r 3), .ref (ad (cTe g))]) := by
  unfold wC_E cCo cTe
  rw [if_neg (by omega), if_pos (by omega), if_neg (by omega), if_neg (by omega), if_pos (by omega)]
theorem eC_te (hg : g < 10) (r : Nat → Int32) : wC_E cI cB cS cR ad (cTe g) r = .inl (cI, 32, .inl r) := by
  unfold wC_E cTe
  rw [if_neg (by omega), if_pos (by omega), if_neg (by omega), if_neg (by omega), if_neg (by omega)]
theorem eC_41 (r : Nat → Int32) : wC_E cI cB cS cR ad 41 r = .inr (4, [.ref (ad 42), .int (r 1), .int (r 2)]) := rfl
theorem eC_42 (r : Nat → Int32) : wC_E cI cB cS cR ad 42 r = .inl (cS, 8, .inr (.inr (.inr (.inr (fun i => some (ad (cSt (2 + i)))))))) := rfl
theorem eC_43 (r : Nat → Int32) : wC_E cI cB cS cR ad 43 r = .inr (6, [.ref (ad 44), .int (r 1), .int (r 2), .int (r 3)]) := rfl
theorem eC_44 (r : Nat → Int32) : wC_E cI cB cS cR ad 44 r = .inl (cB, 120, .inl r) := rfl
theorem eC_45 (r : Nat → Int32) : wC_E cI cB cS cR ad 45 r = .inr (0, [.int (r 0), .int (r 1), .int (r 2), .int (r 3), .int (r 4)]) := rfl
theorem eC_46 (r : Nat → Int32) : wC_E cI cB cS cR ad 46 r = .inr (2, [.ref (ad 47)]) := rfl
theorem eC_47 (r : Nat → Int32) : wC_E cI cB cS cR ad 47 r = .inl (cR, 6, .inr (.inr (.inr (.inr (fun i => some (ad (48 + i))))))) := rfl
theorem eC_ro (hk : k < 6) (r : Nat → Int32) : wC_E cI cB cS cR ad (48 + k) r = .inl (cI, 32, .inl r) := by
  unfold wC_E
  rw [if_neg (by omega), if_neg (by omega), if_neg (by omega), if_neg (by omega), if_neg (by omega), if_neg (by omega), if_neg (by omega), if_neg (by omega), if_neg (by omega), if_pos (by omega)]
theorem eC_54 (r : Nat → Int32) : wC_E cI cB cS cR ad 54 r = .inr (3, [.ref (ad 55)]) := rfl
theorem eC_55 (r : Nat → Int32) : wC_E cI cB cS cR ad 55 r = .inl (cI, 1024, .inl r) := rfl
theorem eC_56 (r : Nat → Int32) : wC_E cI cB cS cR ad 56 r = .inr (7, [.ref (ad 57), .int (r 1), .int (r 2), .int (r 3), .int (r 4), .int (r 5)]) := rfl
theorem eC_57 (r : Nat → Int32) : wC_E cI cB cS cR ad 57 r = .inl (cI, 16, .inl r) := rfl
end WCE
/-- what is only read: two tables, two texts, what nest mates may ask -/
def wC_S (j : Nat) : Int32 := ([0, 1, 2, 4, 8, 16, 3, 5, 6, 9, 10, 12, 17, 18, 20, 24, 7, 11, 13, 14, 19, 21, 22, 25, 26, 28, 15, 23, 27, 29, 30, 31] : List Int32).getD j 0
def wC_P (j : Nat) : Int32 := ([1431655765, 858993459, 252645135, 16711935, 65535] : List Int32).getD j 0
def wC_len (j : Nat) : Nat := ([7, 1] : List Nat).getD j 0
def wC_byt (j i : Nat) : Int32 := (([[99, 109, 119, 102, 118, 115, 104], [59]] : List (List Int32)).getD j []).getD i 0
def wC_RO (tS tP : Nat) (kS vS : Nat → Nat) (A : Nat → Prop) (U : State) (H : Heap) : Prop :=
  (va_Nw (.fieldLinkNest RX1 28 RX8 "SETS" "[I" RX8) U ∧ va_Nw (.fieldLinkNest RX1 40 RX8 "PLACES_WITHOUT" "[I" RX8) U ∧ va_Nw (.methodLinkNest RX1 37 yX8_lowest RX8) U ∧ va_Nw (.methodLinkNest RX0 56 yX8_partsOf RX8) U ∧ va_Nw (.methodLinkNest RX0 62 yX8_isOdd RX8) U ∧ va_Nw (.methodLinkNest RX2 53 yX8_lowest RX8) U) ∧
  (va_Z RX8 "SETS" "[I" (.ref tS) A U H ∧ va_T .int tS 32 (fun j => .int (wC_S j)) A U H) ∧ (va_Z RX8 "PLACES_WITHOUT" "[I" (.ref tP) A U H ∧ va_T .int tP 5 (fun j => .int (wC_P j)) A U H) ∧
  (vk_R RX8 275 "cmwfvsh" (kS 0) U ∧ vk_R RX8 293 ";" (kS 1) U) ∧ vk_S 2 [7, 1] [[99, 109, 119, 102, 118, 115, 104], [59]] kS vS A U H ∧ va_Z RJ0 "COMPACT_STRINGS" "Z" (.int 1) A U H
theorem wC_ROok (tS tP : Nat) (kS vS : Nat → Nat) : wx_RoT (wC_RO tS tP kS vS) := by
  constructor
  · intro A A' s U H locs h hS hAA hU hW
    obtain ⟨⟨n1, n2, n3, n4, n5, n6⟩, ⟨z1, t1⟩, ⟨z2, t2⟩, ⟨r1, r2⟩, k, z3⟩ := h
    subst hU
    exact ⟨⟨n1.warmF hW, n2.warmF hW, n3.warmM hW, n4.warmM hW, n5.warmM hW, n6.warmM hW⟩, ⟨((z1.kept hS.2.1).narrow hAA).moved hW.alike, ((t1.kept hS.2.1).narrow hAA).moved hW.alike⟩, ⟨((z2.kept hS.2.1).narrow hAA).moved hW.alike, ((t2.kept hS.2.1).narrow hAA).moved hW.alike⟩, ⟨r1.warm hW, r2.warm hW⟩, ((k.kept hS.2.1).narrow hAA).moved hW.alike, ((z3.kept hS.2.1).narrow hAA).moved hW.alike⟩
  · intro A U g mk a h
    obtain ⟨⟨n1, n2, n3, n4, n5, n6⟩, ⟨z1, t1⟩, ⟨z2, t2⟩, ⟨r1, r2⟩, k, z3⟩ := h
    exact ⟨⟨va_Nw.same rfl rfl n1, va_Nw.same rfl rfl n2, va_Nw.same rfl rfl n3, va_Nw.same rfl rfl n4, va_Nw.same rfl rfl n5, va_Nw.same rfl rfl n6⟩, ⟨va_Z.moved (Vm.Alike.refl U.vm) z1, va_T.moved (Vm.Alike.refl U.vm) t1⟩, ⟨va_Z.moved (Vm.Alike.refl U.vm) z2, va_T.moved (Vm.Alike.refl U.vm) t2⟩, ⟨vk_R.same rfl r1, vk_R.same rfl r2⟩, vk_S.moved (Vm.Alike.refl U.vm) k, va_Z.moved (Vm.Alike.refl U.vm) z3⟩
section WCR
variable {tS tP : Nat} {kS vS : Nat → Nat} {A : Nat → Prop} {U : State} {H : Heap} {args : Array Value}
theorem ro_n1 (h : wC_RO tS tP kS vS A U H) : (Cond.fieldLinkNest RX1 28 RX8 "SETS" "[I" RX8).before args U = true := va_Nw.use rfl h.1.1
theorem ro_n2 (h : wC_RO tS tP kS vS A U H) : (Cond.fieldLinkNest RX1 40 RX8 "PLACES_WITHOUT" "[I" RX8).before args U = true := va_Nw.use rfl h.1.2.1
theorem ro_n3 (h : wC_RO tS tP kS vS A U H) : va_Nw (.methodLinkNest RX1 37 yX8_lowest RX8) U := h.1.2.2.1
theorem ro_n4 (h : wC_RO tS tP kS vS A U H) : va_Nw (.methodLinkNest RX0 56 yX8_partsOf RX8) U := h.1.2.2.2.1
theorem ro_n5 (h : wC_RO tS tP kS vS A U H) : va_Nw (.methodLinkNest RX0 62 yX8_isOdd RX8) U := h.1.2.2.2.2.1
theorem ro_n6 (h : wC_RO tS tP kS vS A U H) : va_Nw (.methodLinkNest RX2 53 yX8_lowest RX8) U := h.1.2.2.2.2.2
theorem ro_zS (h : wC_RO tS tP kS vS A U H) : va_Z RX8 "SETS" "[I" (.ref tS) A U H := h.2.1.1
theorem ro_tS (h : wC_RO tS tP kS vS A U H) : va_T .int tS 32 (fun j => .int (wC_S j)) A U H := h.2.1.2
theorem ro_zP (h : wC_RO tS tP kS vS A U H) : va_Z RX8 "PLACES_WITHOUT" "[I" (.ref tP) A U H := h.2.2.1.1
theorem ro_tP (h : wC_RO tS tP kS vS A U H) : va_T .int tP 5 (fun j => .int (wC_P j)) A U H := h.2.2.1.2
theorem ro_r0 (h : wC_RO tS tP kS vS A U H) : vk_R RX8 275 "cmwfvsh" (kS 0) U := h.2.2.2.1.1
theorem ro_r1 (h : wC_RO tS tP kS vS A U H) : vk_R RX8 293 ";" (kS 1) U := h.2.2.2.1.2
theorem ro_k (h : wC_RO tS tP kS vS A U H) : vk_S 2 [7, 1] [[99, 109, 119, 102, 118, 115, 104], [59]] kS vS A U H := h.2.2.2.2.1
theorem ro_cs (h : wC_RO tS tP kS vS A U H) : va_Z RJ0 "COMPACT_STRINGS" "Z" (.int 1) A U H := h.2.2.2.2.2
theorem ro_co {j : Nat} (h : wC_RO tS tP kS vS A U H) (hj : j < 2) : va_OF RJ0 "coder" "B" (.int 0) (kS j) A U H := ((ro_k h).1 j hj).2.1
theorem ro_va {j : Nat} (h : wC_RO tS tP kS vS A U H) (hj : j < 2) : va_OF RJ0 "value" "[B" (.ref (vS j)) (kS j) A U H := ((ro_k h).1 j hj).2.2.1
theorem ro_vt {j : Nat} (h : wC_RO tS tP kS vS A U H) (hj : j < 2) : va_T .byte (vS j) (wC_len j) (fun i => .int (wC_byt j i)) A U H := ((ro_k h).1 j hj).2.2.2
end WCR
section WCL
variable {p : Program} {l : Launch} {e : Env} {R : Room} {s : State} {m : MethodId} {args : Array Value} {below : List Frame} {meth : Method} {c : Code} {H : Heap} {locs : List Loc} {Q : State → Prop}
/-- ldc_w of a text -/
theorem wx_ldcS {cc : ByteArray} {pc : Nat} {ls : Array Slot} {rest : List Value} (hexec : p.tables.exec = Jvm.exec) (hb : c.code = cc) {own tx : String} {index q : Nat} (hown : s.vm.findClass own = some m.cls) (hZ : vk_R own index tx q s) (hdg : decode cc pc = .ok (.ldc_w index, 3))
    (k : W p l e R s m args below meth c H locs 0 0 Q (F0 m (pc + 3) ls (.ref q :: rest))) : W p l e R s m args below meth c H locs 0 0 Q (F0 m pc ls rest) := by
  intro T hT X
  obtain ⟨t, a1, b1⟩ := k T hT X
  have h1 : (Cond.stringRef own index tx).before args s = true := hZ.1
  have h2 : (Term.string own index).eval args s none [] s = some (.ref q) := hZ.2
  exact ⟨t, X.ldcStringW hexec hown (text := tx) (a := q) h1 h2 (g := F0 m pc ls rest) rfl (by rw [hb]; exact hdg) t a1, b1⟩
end WCL
