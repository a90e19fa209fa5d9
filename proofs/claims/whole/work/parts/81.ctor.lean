/-! ===== constructors: any world in front, what is made behind ===== -/
theorem va_nd_of : ∀ {l : List Nat}, l.Nodup → va_nd l = true
  | [], _ => rfl
  | a :: l, h => by
    rw [List.nodup_cons] at h
    rw [va_nd, va_nd_of h.2, decide_eq_true h.1]
    rfl
theorem va_nd_range (n : Nat) : va_nd (List.range n) = true := va_nd_of List.nodup_range
theorem k_one {D : va_G} {cl : List vw_C} {tys : List (ClassId × FieldType)} {s : State} (hK : va_K D cl tys s) {i j : Nat} {c1 c2 : ClassId} {ty : FieldType} (hty : ∀ c, va_RA s c ty → s.vm.findClass ("[" ++ ty.toString) = some c) (h1 : tys[i]? = some (c1, ty)) (h2 : tys[j]? = some (c2, ty)) : c1 = c2 := by
  have a := hty c1 (hK.2 i _ h1).2
  have b := hty c2 (hK.2 j _ h2).2
  rw [a] at b
  exact Option.some.inj b
theorem nm_i {s : State} (c : ClassId) (h : va_RA s c .int) : s.vm.findClass ("[" ++ FieldType.int.toString) = some c := h
theorem nm_b {s : State} (c : ClassId) (h : va_RA s c .byte) : s.vm.findClass ("[" ++ FieldType.byte.toString) = some c := h
theorem arrV_cong {c : ClassId} {n : Nat} {f g : Nat → Value} (h : ∀ j, j < n → f j = g j) : arrV c n f = arrV c n g := by
  have e : (arrV c n f).slots = (arrV c n g).slots := by
    apply Array.ext_getElem?
    intro i
    by_cases hi : i < n
    · rw [arrV_read c f hi, arrV_read c g hi, h i hi]
    · rw [Array.getElem?_eq_none (by rw [arrV_size]; omega), Array.getElem?_eq_none (by rw [arrV_size]; omega)]
  unfold arrV at e ⊢
  simp only [Cell.mk.injEq] at e ⊢
  simp only [e, true_and, and_true]
def ct_Pre (D : va_G) (tys : List (ClassId × FieldType)) (RO : (Nat → Prop) → State → Heap → Prop) (W0 : va_W) (sz : Nat) (av : List Value) : Array Value → State → Prop :=
  va_Pc av (fun U => U.heap.size = sz ∧ va_P D vwCl W0 U.heap ∧ va_K D vwCl tys U ∧ va_D (fun _ => True) W0 ∧ RO (va_A W0 sz) U U.heap)
def ct_B {Z : Type} (D : va_G) (tys : Z → List (ClassId × FieldType)) (W1 : Z → va_W) (A : Nat → Prop) : Z → State → Prop := fun u t => va_P D vwCl (W1 u) t.heap ∧ va_K D vwCl (tys u) t ∧ va_D A (W1 u)
def ct_R {Z : Type} (p : Program) (l : Launch) (e : Env) (R : Room) (s : State) (m : MethodId) (args : Array Value) (below : List Frame) (meth : Method) (c : Code) (cc : ByteArray) (D : va_G) (tys : Z → List (ClassId × FieldType)) (W1 : Z → va_W) (A : Nat → Prop) (post : Z → Prop) (mc ms : Nat) (Q : State → Prop) : Prop :=
  ∀ (u : Z) (H : Heap) (locs : List Loc) (pc : Nat) (ls : Array Slot), post u → va_P D vwCl (W1 u) H → va_K D vwCl (tys u) s → va_D A (W1 u) → va_S A s.heap H locs → decode cc pc = .ok (.return_, 1) → W p l e R s m args below meth c H locs mc ms Q (F0 m pc ls [])
theorem ct_met {l : Launch} {y : MethodName} {ws ws' : List Cond} {rm : Room} {cc : ByteArray} {maxL : Nat} {own : String} {D : va_G} {tys : List (ClassId × FieldType)} {RO : (Nat → Prop) → State → Heap → Prop} {W0 : va_W} {sz : Nat} {av : List Value} {Z : Type} {post : Z → Prop} {W1 : Z → va_W} {tys1 : Z → List (ClassId × FieldType)} {mc ms : Nat} (hown : y.cls = own) (hnm : y.name = "<init>") (hy : plainName y.cls = true) (hw : ws = Cond.code y cc maxL none :: ws') (hn : (lg_sl av).length ≤ maxL)
    (body : ∀ (p : Program) (e : Env) (s : State) (m : MethodId) (args : Array Value) (below : List Frame) (meth : Method) (c : Code) (A : Nat → Prop) (Q : State → Prop) (ls : Array Slot), CallFix p m c cc maxL s args ws own → meth.name = "<init>" → (∀ q : Nat, s.heap.size ≤ q → A q) → RO A s s.heap → va_K D vwCl tys s → ct_R p l e rm s m args below meth c cc D tys1 W1 A post mc ms Q → va_P D vwCl W0 s.heap → va_D A W0 → va_S A s.heap s.heap [] → lv_has ls maxL (lv_args 0 av) → W p l e rm s m args below meth c s.heap [] 0 0 Q (F0 m 0 ls [])) :
    Met l y ws rm (ct_Pre D tys RO W0 sz av) (va_Qv post (ct_B D tys1 W1 (va_A W0 sz)) (va_A W0 sz)) mc ms (va_A W0 sz) := by
  refine Met.ofW (cc := cc) (maxL := maxL) (ret := none) hy hw ?_
  intro p e s m args below meth c s₁ B hml hv
  obtain ⟨rfl, hsz, hP, hK, hD0, hro⟩ := hv
  subst hsz
  have hD := hD0.self (sz := s.heap.size)
  have hl := lv_entry av (n := maxL) hn
  rw [lg_entry_eq]
  refine body p e s m _ below meth c (va_A W0 s.heap.size) _ _ ⟨B.exec, B.bytes, hml, by rw [← hown]; exact findClass_of_methodNamed B.named, atoms_spec (ws := ws) B.pre⟩ ?_ (fun q h => Or.inr h) hro hK ?_ hP hD va_S.rf hl
  · rw [← hnm]; exact (name_of_methodNamed B.named B.method).1
  · intro u H locs pc ls hp hP' hK' hD' hS' hdg
    exact W.vret B.exec B.bytes B.returns (fun t ht hW => ⟨⟨u, rfl, hp, by rw [ht]; exact hP', va_K.moved hW.alike hK', hD'⟩, hS'.F ht⟩) hS'.2.2 hdg
section CT
variable {p : Program} {l : Launch} {e : Env} {R : Room} {s : State} {m : MethodId} {args : Array Value} {below : List Frame} {meth : Method} {c : Code} {H : Heap} {locs : List Loc} {Q : State → Prop} {cells slots : Nat}
variable {cc : ByteArray} {nL pc : Nat} {own : String} {Ts : List Cond} {D : va_G} {tys : List (ClassId × FieldType)} {RO : (Nat → Prop) → State → Heap → Prop} {A : Nat → Prop} {ls : Array Slot} {rest : List Value}
theorem ct_free {X : va_W} {x : Nat × va_E} {H0 : Heap} (hD : va_D A (X ++ [x])) (hS : va_S A H0 H locs) (hA : ∀ q, H0.size ≤ q → A q) : ∀ q, va_A [x] H.size q → A q :=
  va_free (wc := [x]) hD hS hA [X.length] (by simp)
theorem ct_pre {X : va_W} {x : Nat × va_E} (hRO : wx_RoT RO) (hro : RO A s s.heap) (hA : ∀ q : Nat, s.heap.size ≤ q → A q) (hK : va_K D vwCl tys s) (hP : va_P D vwCl (X ++ [x]) H) (hD : va_D A (X ++ [x])) (hS : va_S A s.heap H locs) {As : List Value} : PreS s H (ct_Pre D tys RO [x] H.size As) As := by
  have hF := ct_free hD hS hA
  refine ⟨fun a U g mk q => ?_, fun U hU hW => ⟨rfl, by rw [hU], ?_, va_K.moved hW.alike hK, ?_, ?_⟩⟩
  · obtain ⟨q0, q1, qP, qK, qD, qR⟩ := q
    exact ⟨q0, q1, qP, va_K.moved (u := U) (U := U.calling g mk a) (Vm.Alike.refl U.vm) qK, qD, hRO.2 _ _ _ _ _ qR⟩
  · rw [hU]
    intro k q hq
    have h0 : k < 1 := (List.getElem?_eq_some_iff.mp hq).1
    rw [show k = 0 by omega] at hq
    cases hq
    exact hP X.length x (by simp)
  · refine ⟨fun i j p q hi hj _ => ?_, fun _ _ _ => trivial⟩
    have h1 : i < 1 := (List.getElem?_eq_some_iff.mp hi).1
    have h2 : j < 1 := (List.getElem?_eq_some_iff.mp hj).1
    omega
  · exact hRO.1 A (va_A [x] H.size) s U H locs hro hS hF hU hW
/-- what a constructor made stands behind what was there -/
theorem ct_cv {Z : Type} {post : Z → Prop} {W1 : Z → va_W} {tys1 : Z → List (ClassId × FieldType)} {X : va_W} {x : Nat × va_E} {mc ms : Nat} {a : Array Value} {st0 : List Value} (hA : ∀ q : Nat, s.heap.size ≤ q → A q) (hP : va_P D vwCl (X ++ [x]) H) (hD : va_D A (X ++ [x])) (hS : va_S A s.heap H locs) (hr : va_Run p l e R s m args below meth c H locs cells slots mc ms (F0 m pc ls st0) rest (va_Qv post (ct_B D tys1 W1 (va_A [x] H.size)) (va_A [x] H.size) a) (va_A [x] H.size))
    (kk : ∀ (u : Z) (H1 : Heap) (locs1 : List Loc), post u → va_K D vwCl (tys1 u) s → va_P D vwCl (X ++ W1 u) H1 → va_D A (X ++ W1 u) → va_S A s.heap H1 locs1 → W p l e R s m args below meth c H1 locs1 (cells + mc) (slots + ms) Q (F0 m (pc + 3) ls rest)) : W p l e R s m args below meth c H locs cells slots Q (F0 m pc ls st0) := by
  have hF := ct_free hD hS hA
  refine va_callv hr hS (fun q _ h => hF q h) hF (fun u t H1 locs1 ht hvm hw hB hz1 hk1 hS1 => ?_)
  obtain ⟨hP1, hK1, hD1⟩ := hB
  rw [ht] at hP1
  obtain ⟨hP2, hD2⟩ := va_join (wr := X) (w1 := W1 u) hP hD [X.length] (List.range X.length) (by simp) (by
    apply List.ext_getElem?
    intro i
    rw [List.getElem?_map, List.getElem?_map]
    by_cases hi : i < X.length
    · rw [List.getElem?_range hi]
      show some ((X ++ [x])[i]?) = (X[i]?).map some
      rw [List.getElem?_append_left hi, List.getElem?_eq_getElem hi]
      rfl
    · rw [List.getElem?_eq_none (by rw [List.length_range]; omega), List.getElem?_eq_none (by omega)]
      rfl) (va_nd_range X.length) (fun i hi => by
    have := List.mem_range.mp hi
    simp
    omega) hk1 hF hP1 hD1
  exact kk u H1 locs1 hw (va_K.moved hvm.symm hK1) hP2 hD2 hS1
end CT
