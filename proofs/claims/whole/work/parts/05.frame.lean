/-! ===== the frame of these rows: a world of N numbered cells at the addresses ad; all that may change in it is σ : cell, slot ===== -/
abbrev wx_Z : Type := Nat → Nat → Int32
def wx_up (σ : wx_Z) (c k : Nat) (v : Int32) : wx_Z := va_up σ c (upd (σ c) k v)
def wx_us (x y : Int32) : Int32 := (x.toUInt32 >>> (y.toUInt32 &&& Int32.toUInt32 31)).toInt32
def wx_uL (x : Int64) (y : Int32) : Int64 := (x.toUInt64 >>> (y.toInt64.toUInt64 &&& Int64.toUInt64 63)).toInt64
def wx_w (N : Nat) (E : Nat → (Nat → Int32) → va_E) (ad : Nat → Nat) (σ : wx_Z) : va_W := (List.range N).map (fun q => (ad q, E q (σ q)))
theorem wx_at {N : Nat} {E : Nat → (Nat → Int32) → va_E} {ad : Nat → Nat} {σ : wx_Z} {q : Nat} (h : q < N) : (wx_w N E ad σ)[q]? = some (ad q, E q (σ q)) := by
  unfold wx_w
  rw [List.getElem?_map, List.getElem?_range h]
  rfl
theorem wx_len {N : Nat} {E : Nat → (Nat → Int32) → va_E} {ad : Nat → Nat} {σ : wx_Z} : (wx_w N E ad σ).length = N := by simp [wx_w]
theorem wx_set {N : Nat} {E : Nat → (Nat → Int32) → va_E} {ad : Nat → Nat} {σ : wx_Z} {q : Nat} (h : q < N) (r : Nat → Int32) {e : va_E} (he : E q r = e) : (wx_w N E ad σ).set q (ad q, e) = wx_w N E ad (va_up σ q r) := by
  subst he
  apply List.ext_getElem?
  intro i
  by_cases hi : i = q
  · subst hi
    rw [List.getElem?_set_self (by rw [wx_len]; exact h), wx_at h]
    simp [va_up]
  · rw [List.getElem?_set_ne (fun z => hi z.symm)]
    by_cases hN : i < N
    · rw [wx_at hN, wx_at hN]
      simp [va_up, hi]
    · rw [List.getElem?_eq_none (by rw [wx_len]; omega), List.getElem?_eq_none (by rw [wx_len]; omega)]
theorem wx_adr {N : Nat} {E : Nat → (Nat → Int32) → va_E} {ad : Nat → Nat} {σ σ' : wx_Z} {sz q : Nat} (h : va_A (wx_w N E ad σ) sz q) : va_A (wx_w N E ad σ') sz q := by
  rcases h with ⟨k, e, h⟩ | h
  · have hk : k < N := by
      have := (List.getElem?_eq_some_iff.mp h).1
      rw [wx_len] at this
      exact this
    rw [wx_at hk] at h
    cases h
    exact Or.inl ⟨k, E k (σ' k), wx_at hk⟩
  · exact Or.inr h
theorem wx_free {N : Nat} {E : Nat → (Nat → Int32) → va_E} {ad : Nat → Nat} {σ : wx_Z} {A : Nat → Prop} {H0 H : Heap} {locs : List Loc} (hD : va_D A (wx_w N E ad σ)) (hS : va_S A H0 H locs) (hA : ∀ q, H0.size ≤ q → A q) : ∀ q, va_A (wx_w N E ad σ) H.size q → A q := by
  intro q h
  rcases h with ⟨k, e, h⟩ | h
  · exact hD.2 k (q, e) h
  · exact hA q (Nat.le_trans hS.1 h)
/-- what nobody writes: it goes along with every call -/
def wx_RoT (RO : (Nat → Prop) → State → Heap → Prop) : Prop :=
  (∀ (A A' : Nat → Prop) (s U : State) (H : Heap) (locs : List Loc), RO A s s.heap → va_S A s.heap H locs → (∀ q, A' q → A q) → U.heap = H → s.WarmedH U.vm → RO A' U U.heap) ∧
  ∀ (A : Nat → Prop) (U : State) (g : JFrame) (mk : MethodId) (a : Array Value), RO A U U.heap → RO A (U.calling g mk a) (U.calling g mk a).heap
def wx_Pre (D : va_G) (tys : List (ClassId × FieldType)) (RO : (Nat → Prop) → State → Heap → Prop) (N : Nat) (E : Nat → (Nat → Int32) → va_E) (ad : Nat → Nat) (σ : wx_Z) (sz : Nat) (av : List Value) : Array Value → State → Prop :=
  va_Pc av (fun U => U.heap.size = sz ∧ va_P D vwCl (wx_w N E ad σ) U.heap ∧ va_K D vwCl tys U ∧ va_D (fun _ => True) (wx_w N E ad σ) ∧ RO (va_A (wx_w N E ad σ) sz) U U.heap)
def wx_B (D : va_G) (tys : List (ClassId × FieldType)) (N : Nat) (E : Nat → (Nat → Int32) → va_E) (ad : Nat → Nat) (A : Nat → Prop) : wx_Z → State → Prop := fun σ t => va_P D vwCl (wx_w N E ad σ) t.heap ∧ va_K D vwCl tys t ∧ va_D A (wx_w N E ad σ)
theorem wx_blind {D : va_G} {tys : List (ClassId × FieldType)} {RO : (Nat → Prop) → State → Heap → Prop} {N : Nat} {E : Nat → (Nat → Int32) → va_E} {ad : Nat → Nat} {σ : wx_Z} {sz : Nat} {av : List Value} (hRO : wx_RoT RO) : FrameBlind (wx_Pre D tys RO N E ad σ sz av) := fun a U g mk q => by
  obtain ⟨q0, q1, qP, qK, qD, qR⟩ := q
  exact ⟨q0, q1, qP, va_K.moved (u := U) (U := U.calling g mk a) (Vm.Alike.refl U.vm) qK, qD, hRO.2 _ _ _ _ _ qR⟩
def wx_C (p : Program) (s : State) (m : MethodId) (args : Array Value) (c : Code) (cc : ByteArray) (nL : Nat) (own : String) (Ts : List Cond) (D : va_G) (tys : List (ClassId × FieldType)) (RO : (Nat → Prop) → State → Heap → Prop) (A : Nat → Prop) : Prop :=
  CallFix p m c cc nL s args Ts own ∧ (∀ q : Nat, s.heap.size ≤ q → A q) ∧ va_K D vwCl tys s ∧ wx_RoT RO ∧ RO A s s.heap
section WXA
variable {p : Program} {l : Launch} {e : Env} {R : Room} {s : State} {m : MethodId} {args : Array Value} {below : List Frame} {meth : Method} {c : Code} {H : Heap} {locs : List Loc} {Q : State → Prop}
variable {cc : ByteArray} {nL pc : Nat} {own : String} {Ts : List Cond} {D : va_G} {tys : List (ClassId × FieldType)} {RO : (Nat → Prop) → State → Heap → Prop} {A : Nat → Prop} {N : Nat} {E : Nat → (Nat → Int32) → va_E} {ad : Nat → Nat} {σ : wx_Z} {ls : Array Slot} {rest : List Value}
def wx_Ri (p : Program) (l : Launch) (e : Env) (R : Room) (s : State) (m : MethodId) (args : Array Value) (below : List Frame) (meth : Method) (c : Code) (cc : ByteArray) (D : va_G) (N : Nat) (E : Nat → (Nat → Int32) → va_E) (ad : Nat → Nat) (A : Nat → Prop) (K : Int32 → wx_Z → Prop) (Q : State → Prop) : Prop :=
  ∀ (v : Int32) (σ : wx_Z) (H : Heap) (locs : List Loc) (pc : Nat) (ls : Array Slot), K v σ → va_P D vwCl (wx_w N E ad σ) H → va_D A (wx_w N E ad σ) → va_S A s.heap H locs → decode cc pc = .ok (.ireturn, 1) → W p l e R s m args below meth c H locs 0 0 Q (F0 m pc ls [.int v])
def wx_Rz (ty : FieldType) (p : Program) (l : Launch) (e : Env) (R : Room) (s : State) (m : MethodId) (args : Array Value) (below : List Frame) (meth : Method) (c : Code) (cc : ByteArray) (D : va_G) (N : Nat) (E : Nat → (Nat → Int32) → va_E) (ad : Nat → Nat) (A : Nat → Prop) (K : Int32 → wx_Z → Prop) (Q : State → Prop) : Prop :=
  ∀ (v : Int32) (σ : wx_Z) (H : Heap) (locs : List Loc) (pc : Nat) (ls : Array Slot), narrow ty (.int v) = .int v → K v σ → va_P D vwCl (wx_w N E ad σ) H → va_D A (wx_w N E ad σ) → va_S A s.heap H locs → decode cc pc = .ok (.ireturn, 1) → W p l e R s m args below meth c H locs 0 0 Q (F0 m pc ls [.int v])
def wx_Rl (p : Program) (l : Launch) (e : Env) (R : Room) (s : State) (m : MethodId) (args : Array Value) (below : List Frame) (meth : Method) (c : Code) (cc : ByteArray) (D : va_G) (N : Nat) (E : Nat → (Nat → Int32) → va_E) (ad : Nat → Nat) (A : Nat → Prop) (K : Int64 → wx_Z → Prop) (Q : State → Prop) : Prop :=
  ∀ (v : Int64) (σ : wx_Z) (H : Heap) (locs : List Loc) (pc : Nat) (ls : Array Slot), K v σ → va_P D vwCl (wx_w N E ad σ) H → va_D A (wx_w N E ad σ) → va_S A s.heap H locs → decode cc pc = .ok (.lreturn, 1) → W p l e R s m args below meth c H locs 0 0 Q (F0 m pc ls [.long v])
def wx_Rv (p : Program) (l : Launch) (e : Env) (R : Room) (s : State) (m : MethodId) (args : Array Value) (below : List Frame) (meth : Method) (c : Code) (cc : ByteArray) (D : va_G) (N : Nat) (E : Nat → (Nat → Int32) → va_E) (ad : Nat → Nat) (A : Nat → Prop) (K : wx_Z → Prop) (Q : State → Prop) : Prop :=
  ∀ (σ : wx_Z) (H : Heap) (locs : List Loc) (pc : Nat) (ls : Array Slot), K σ → va_P D vwCl (wx_w N E ad σ) H → va_D A (wx_w N E ad σ) → va_S A s.heap H locs → decode cc pc = .ok (.return_, 1) → W p l e R s m args below meth c H locs 0 0 Q (F0 m pc ls [])
theorem wx_pv (C : wx_C p s m args c cc nL own Ts D tys RO A) (hP : va_P D vwCl (wx_w N E ad σ) H) (hD : va_D A (wx_w N E ad σ)) (hS : va_S A s.heap H locs) {q ci : Nat} {fs : List Value} {r : vw_C} (hq : q < N) (he : E q (σ q) = .inr (ci, fs)) (hc : vwCl[ci]? = some r) {As : List Value} : PreV s H r.1 (ad q) (wx_Pre D tys RO N E ad σ H.size (.ref (ad q) :: As)) As := by
  obtain ⟨-, hA, hK, hRO, hro⟩ := C
  refine ⟨wx_blind hRO, va_recv hK hP hc (q0 := q) (ci := ci) (fs := fs) (by rw [wx_at hq, he]), fun U hU hW => ⟨rfl, by rw [hU], by rw [hU]; exact hP, va_K.moved hW.alike hK, hD.weaken (fun _ _ _ _ => trivial), ?_⟩⟩
  exact hRO.1 A (va_A (wx_w N E ad σ) H.size) s U H locs hro hS (wx_free hD hS hA) hU hW
theorem wx_px (C : wx_C p s m args c cc nL own Ts D tys RO A) (hP : va_P D vwCl (wx_w N E ad σ) H) (hD : va_D A (wx_w N E ad σ)) (hS : va_S A s.heap H locs) {b : Nat} {Cn : String} (hr : ∃ cell : Cell, H[b]? = some cell ∧ cell.vm.isStatics = false ∧ s.vm.findClass Cn = some cell.cls) {As : List Value} : PreV s H Cn b (wx_Pre D tys RO N E ad σ H.size (.ref b :: As)) As := by
  obtain ⟨-, hA, hK, hRO, hro⟩ := C
  refine ⟨wx_blind hRO, hr, fun U hU hW => ⟨rfl, by rw [hU], by rw [hU]; exact hP, va_K.moved hW.alike hK, hD.weaken (fun _ _ _ _ => trivial), ?_⟩⟩
  exact hRO.1 A (va_A (wx_w N E ad σ) H.size) s U H locs hro hS (wx_free hD hS hA) hU hW
theorem wx_ps (C : wx_C p s m args c cc nL own Ts D tys RO A) (hP : va_P D vwCl (wx_w N E ad σ) H) (hD : va_D A (wx_w N E ad σ)) (hS : va_S A s.heap H locs) {As : List Value} : PreS s H (wx_Pre D tys RO N E ad σ H.size As) As := by
  obtain ⟨-, hA, hK, hRO, hro⟩ := C
  refine ⟨wx_blind hRO, fun U hU hW => ⟨rfl, by rw [hU], by rw [hU]; exact hP, va_K.moved hW.alike hK, hD.weaken (fun _ _ _ _ => trivial), ?_⟩⟩
  exact hRO.1 A (va_A (wx_w N E ad σ) H.size) s U H locs hro hS (wx_free hD hS hA) hU hW
theorem wx_ci (C : wx_C p s m args c cc nL own Ts D tys RO A) (hD : va_D A (wx_w N E ad σ)) (hS : va_S A s.heap H locs) {K' : Int32 → wx_Z → Prop} {a : Array Value} {st0 : List Value} (hr : va_Run p l e R s m args below meth c H locs 0 0 0 0 (F0 m pc ls st0) rest (va_Qi K' (wx_B D tys N E ad (va_A (wx_w N E ad σ) H.size)) (va_A (wx_w N E ad σ) H.size) a) (va_A (wx_w N E ad σ) H.size))
    (kk : ∀ (r : Int32) (σ' : wx_Z) (H1 : Heap) (locs1 : List Loc), K' r σ' → va_P D vwCl (wx_w N E ad σ') H1 → va_D A (wx_w N E ad σ') → va_S A s.heap H1 locs1 → W p l e R s m args below meth c H1 locs1 0 0 Q (F0 m (pc + 3) ls (.int r :: rest))) : W p l e R s m args below meth c H locs 0 0 Q (F0 m pc ls st0) := by
  have hF := wx_free hD hS C.2.1
  refine va_calli hr hS (fun q _ h => hF q h) hF (fun r u t H1 locs1 ht hvm hw hB hz1 hk1 hS1 => ?_)
  obtain ⟨hP1, hK1, hD1⟩ := hB
  rw [ht] at hP1
  exact kk r u H1 locs1 hw hP1 (hD1.weaken (fun _ q _ h => hF q.1 h)) hS1
theorem wx_cl (C : wx_C p s m args c cc nL own Ts D tys RO A) (hD : va_D A (wx_w N E ad σ)) (hS : va_S A s.heap H locs) {K' : Int64 → wx_Z → Prop} {a : Array Value} {st0 : List Value} (hr : va_Run p l e R s m args below meth c H locs 0 0 0 0 (F0 m pc ls st0) rest (va_Ql K' (wx_B D tys N E ad (va_A (wx_w N E ad σ) H.size)) (va_A (wx_w N E ad σ) H.size) a) (va_A (wx_w N E ad σ) H.size))
    (kk : ∀ (r : Int64) (σ' : wx_Z) (H1 : Heap) (locs1 : List Loc), K' r σ' → va_P D vwCl (wx_w N E ad σ') H1 → va_D A (wx_w N E ad σ') → va_S A s.heap H1 locs1 → W p l e R s m args below meth c H1 locs1 0 0 Q (F0 m (pc + 3) ls (.long r :: rest))) : W p l e R s m args below meth c H locs 0 0 Q (F0 m pc ls st0) := by
  have hF := wx_free hD hS C.2.1
  refine va_calll hr hS (fun q _ h => hF q h) hF (fun r u t H1 locs1 ht hvm hw hB hz1 hk1 hS1 => ?_)
  obtain ⟨hP1, hK1, hD1⟩ := hB
  rw [ht] at hP1
  exact kk r u H1 locs1 hw hP1 (hD1.weaken (fun _ q _ h => hF q.1 h)) hS1
theorem wx_cv (C : wx_C p s m args c cc nL own Ts D tys RO A) (hD : va_D A (wx_w N E ad σ)) (hS : va_S A s.heap H locs) {K' : wx_Z → Prop} {a : Array Value} {st0 : List Value} (hr : va_Run p l e R s m args below meth c H locs 0 0 0 0 (F0 m pc ls st0) rest (va_Qv K' (wx_B D tys N E ad (va_A (wx_w N E ad σ) H.size)) (va_A (wx_w N E ad σ) H.size) a) (va_A (wx_w N E ad σ) H.size))
    (kk : ∀ (σ' : wx_Z) (H1 : Heap) (locs1 : List Loc), K' σ' → va_P D vwCl (wx_w N E ad σ') H1 → va_D A (wx_w N E ad σ') → va_S A s.heap H1 locs1 → W p l e R s m args below meth c H1 locs1 0 0 Q (F0 m (pc + 3) ls rest)) : W p l e R s m args below meth c H locs 0 0 Q (F0 m pc ls st0) := by
  have hF := wx_free hD hS C.2.1
  refine va_callv hr hS (fun q _ h => hF q h) hF (fun u t H1 locs1 ht hvm hw hB hz1 hk1 hS1 => ?_)
  obtain ⟨hP1, hK1, hD1⟩ := hB
  rw [ht] at hP1
  exact kk u H1 locs1 hw hP1 (hD1.weaken (fun _ q _ h => hF q.1 h)) hS1
theorem wx_get (C : wx_C p s m args c cc nL own Ts D tys RO A) (hP : va_P D vwCl (wx_w N E ad σ) H) {q : Nat} (hq : q < N) {ci : Nat} {fs : List Value} (he : E q (σ q) = .inr (ci, fs)) {Cn : String} {T : u_T} {Nf : Nat} (hc : vwCl[ci]? = some (Cn, T, Nf)) (hin : ∀ w ∈ u_ws Cn T Nf, w ∈ Ts) (k : Nat) (hk : k < Nf) {index : Nat} (hlink : Cond.fieldLink own index (T k).1 (T k).2.1 (T k).2.2.1 ∈ Ts) {v : Value} (hv : fs[k]? = some v) (hdg : decode cc pc = .ok (.getfield index, 3))
    (kk : W p l e R s m args below meth c H locs 0 0 Q (F0 m (pc + 3) ls (v :: rest))) : W p l e R s m args below meth c H locs 0 0 Q (F0 m pc ls (.ref (ad q) :: rest)) :=
  va_get (D := D) (ci := ci) C.1.1 C.1.2.1 C.1.2.2.2.2 hin C.1.2.2.2.1 C.2.2.1 hP q (by rw [wx_at hq, he]) hc k hk (C.1.2.2.2.2 _ hlink) (fun _ h9 => h9) hv hdg kk
theorem wx_put (C : wx_C p s m args c cc nL own Ts D tys RO A) (hP : va_P D vwCl (wx_w N E ad σ) H) (hD : va_D A (wx_w N E ad σ)) (hS : va_S A s.heap H locs) {q : Nat} (hq : q < N) {ci : Nat} {fs : List Value} (he : E q (σ q) = .inr (ci, fs)) {Cn : String} {T : u_T} {Nf : Nat} (hc : vwCl[ci]? = some (Cn, T, Nf)) (hin : ∀ w ∈ u_ws Cn T Nf, w ∈ Ts) (ty0 : Nat → FieldType) (hty : ∀ k, k < Nf → parseFieldDescriptor (T k).2.2.1 = some (ty0 k)) (hnm : ∀ a, a < Nf → ∀ b, b < Nf → a ≠ b → (T a).2.1 ≠ (T b).2.1) (k : Nat) (hk : k < Nf) {index : Nat} (hlink : Cond.fieldLink own index (T k).1 (T k).2.1 (T k).2.2.1 ∈ Ts) (hfin : (T k).2.2.2 = false) (hd : ty0 k = .int) (hl : k < fs.length) {v : Int32} (hE : E q (upd (σ q) k v) = .inr (ci, fs.set k (.int v))) (hdg : decode cc pc = .ok (.putfield index, 3))
    (kk : ∀ (H1 : Heap) (locs1 : List Loc), va_P D vwCl (wx_w N E ad (wx_up σ q k v)) H1 → va_D A (wx_w N E ad (wx_up σ q k v)) → va_S A s.heap H1 locs1 → W p l e R s m args below meth c H1 locs1 0 0 Q (F0 m (pc + 3) ls rest)) : W p l e R s m args below meth c H locs 0 0 Q (F0 m pc ls (.int v :: .ref (ad q) :: rest)) := by
  refine va_put (D := D) (ci := ci) (v := .int v) (ty := .int) C.1.1 C.1.2.1 C.1.2.2.2.2 hin ty0 hty hnm C.1.2.2.2.1 C.2.2.1 hP hD hS q (by rw [wx_at hq, he]) hc k hk (C.1.2.2.2.2 _ hlink) (fun _ h9 => h9) hfin (by rw [hty k hk, hd]) rfl rfl hl hdg (fun H1 locs1 hP1 hD1 hS1 => ?_)
  rw [wx_set hq _ hE] at hP1 hD1
  exact kk H1 locs1 hP1 hD1 hS1
theorem wx_ild (C : wx_C p s m args c cc nL own Ts D tys RO A) (hP : va_P D vwCl (wx_w N E ad σ) H) {q : Nat} (hq : q < N) {cA : ClassId} {n : Nat} (hE : ∀ r, E q r = .inl (cA, n, .inl r)) (t0 : Nat) (ht : tys[t0]? = some (cA, .int)) {i : Int32} (hin : vp_in i n) (hdg : decode cc pc = .ok (.iaload, 1))
    (kk : W p l e R s m args below meth c H locs 0 0 Q (F0 m (pc + 1) ls (.int (σ q i.toNatClampNeg) :: rest))) : W p l e R s m args below meth c H locs 0 0 Q (F0 m pc ls (.int i :: .ref (ad q) :: rest)) :=
  va_iald C.1.1 C.1.2.1 C.2.2.1 hP q t0 (by rw [wx_at hq, hE]) ht hin hdg kk
theorem wx_ist (C : wx_C p s m args c cc nL own Ts D tys RO A) (hP : va_P D vwCl (wx_w N E ad σ) H) (hD : va_D A (wx_w N E ad σ)) (hS : va_S A s.heap H locs) {q : Nat} (hq : q < N) {cA : ClassId} {n : Nat} (hE : ∀ r, E q r = .inl (cA, n, .inl r)) (t0 : Nat) (ht : tys[t0]? = some (cA, .int)) {i x : Int32} (hin : vp_in i n) (hdg : decode cc pc = .ok (.iastore, 1))
    (kk : ∀ (H1 : Heap) (locs1 : List Loc), va_P D vwCl (wx_w N E ad (wx_up σ q i.toNatClampNeg x)) H1 → va_D A (wx_w N E ad (wx_up σ q i.toNatClampNeg x)) → va_S A s.heap H1 locs1 → W p l e R s m args below meth c H1 locs1 0 0 Q (F0 m (pc + 1) ls rest)) : W p l e R s m args below meth c H locs 0 0 Q (F0 m pc ls (.int x :: .int i :: .ref (ad q) :: rest)) := by
  refine va_iast C.1.1 C.1.2.1 C.2.2.1 hP hD hS q t0 (by rw [wx_at hq, hE]) ht hin hdg (fun H1 locs1 hP1 hD1 hS1 => ?_)
  rw [wx_set hq _ (hE _)] at hP1 hD1
  exact kk H1 locs1 hP1 hD1 hS1
theorem wx_bld (C : wx_C p s m args c cc nL own Ts D tys RO A) (hP : va_P D vwCl (wx_w N E ad σ) H) {q : Nat} (hq : q < N) {cA : ClassId} {n : Nat} (hE : ∀ r, E q r = .inl (cA, n, .inl r)) (t0 : Nat) (ht : tys[t0]? = some (cA, .byte)) {i : Int32} (hin : vp_in i n) (hdg : decode cc pc = .ok (.baload, 1))
    (kk : W p l e R s m args below meth c H locs 0 0 Q (F0 m (pc + 1) ls (.int (σ q i.toNatClampNeg) :: rest))) : W p l e R s m args below meth c H locs 0 0 Q (F0 m pc ls (.int i :: .ref (ad q) :: rest)) :=
  va_bald C.1.1 C.1.2.1 C.2.2.1 hP q t0 (by rw [wx_at hq, hE]) ht hin hdg kk
theorem wx_bst (C : wx_C p s m args c cc nL own Ts D tys RO A) (hP : va_P D vwCl (wx_w N E ad σ) H) (hD : va_D A (wx_w N E ad σ)) (hS : va_S A s.heap H locs) {q : Nat} (hq : q < N) {cA : ClassId} {n : Nat} (hE : ∀ r, E q r = .inl (cA, n, .inl r)) (t0 : Nat) (ht : tys[t0]? = some (cA, .byte)) {i x : Int32} (hin : vp_in i n) (hdg : decode cc pc = .ok (.bastore, 1))
    (kk : ∀ (H1 : Heap) (locs1 : List Loc), va_P D vwCl (wx_w N E ad (wx_up σ q i.toNatClampNeg (vp_nar .byte x))) H1 → va_D A (wx_w N E ad (wx_up σ q i.toNatClampNeg (vp_nar .byte x))) → va_S A s.heap H1 locs1 → W p l e R s m args below meth c H1 locs1 0 0 Q (F0 m (pc + 1) ls rest)) : W p l e R s m args below meth c H locs 0 0 Q (F0 m pc ls (.int x :: .int i :: .ref (ad q) :: rest)) := by
  refine va_bast C.1.1 C.1.2.1 C.2.2.1 hP hD hS q t0 (by rw [wx_at hq, hE]) ht hin hdg (fun H1 locs1 hP1 hD1 hS1 => ?_)
  rw [wx_set hq _ (hE _)] at hP1 hD1
  exact kk H1 locs1 hP1 hD1 hS1
theorem wx_ald (C : wx_C p s m args c cc nL own Ts D tys RO A) (hP : va_P D vwCl (wx_w N E ad σ) H) {q : Nat} (hq : q < N) {cA : ClassId} {n : Nat} {f : Nat → Option Nat} (he : E q (σ q) = .inl (cA, n, .inr (.inr (.inr (.inr f))))) (t0 : Nat) {ty : FieldType} (ht : tys[t0]? = some (cA, ty)) (hty : ty.isReference = true) {i : Int32} (hin : vp_in i n) {a : Nat} (ha : f i.toNatClampNeg = some a) (hdg : decode cc pc = .ok (.aaload, 1))
    (kk : W p l e R s m args below meth c H locs 0 0 Q (F0 m (pc + 1) ls (.ref a :: rest))) : W p l e R s m args below meth c H locs 0 0 Q (F0 m pc ls (.int i :: .ref (ad q) :: rest)) := by
  have hlt : i.toNatClampNeg < n := Nat.not_le.mp fun q => hin (Or.inr q)
  have hk2 : W p l e R s m args below meth c H locs 0 0 Q (F0 m (pc + 1) ls (va_rf (f i.toNatClampNeg) :: rest)) := by rw [ha]; exact kk
  have hcell : H[ad q]? = some (vp_cell cA (n, .inr (.inr (.inr (.inr f))))) := hP q (ad q, .inl (cA, n, .inr (.inr (.inr (.inr f))))) (by rw [wx_at hq, he])
  exact W.aald (v := va_rf (f i.toNatClampNeg)) (ty := ty) C.1.1 C.1.2.1 hcell ((C.2.2.1.2 t0 _ ht).1 n (fun j => va_rf (f j))) hty (fun q => by cases q) (by show ¬ (i < 0 ∨ (arrV _ _ _).slots.size ≤ _); rw [arrV_size]; exact hin) (by show (arrV _ _ _).slots[_]? = _; rw [arrV_read _ _ hlt]) rfl rfl hdg hk2
theorem wx_aln (C : wx_C p s m args c cc nL own Ts D tys RO A) (hP : va_P D vwCl (wx_w N E ad σ) H) {q : Nat} (hq : q < N) {cA : ClassId} {n : Nat} (hE : ∀ r, E q r = .inl (cA, n, .inl r)) (t0 : Nat) {ty : FieldType} (ht : tys[t0]? = some (cA, ty)) {v : Int32} (hv : Int32.ofNat n = v) (hdg : decode cc pc = .ok (.arraylength, 1))
    (kk : W p l e R s m args below meth c H locs 0 0 Q (F0 m (pc + 1) ls (.int v :: rest))) : W p l e R s m args below meth c H locs 0 0 Q (F0 m pc ls (.ref (ad q) :: rest)) :=
  va_alen C.1.1 C.1.2.1 C.2.2.1 hP q t0 (by rw [wx_at hq, hE]) ht hv hdg kk
theorem wx_cpy (C : wx_C p s m args c cc nL own Ts D tys RO A) (hP : va_P D vwCl (wx_w N E ad σ) H) (hD : va_D A (wx_w N E ad σ)) (hS : va_S A s.heap H locs) (hsz : ls.size = nL) {index : Nat} (hlink : Cond.methodLink own index arraycopyName ∈ Ts) (hnat : Cond.native arraycopyName ∈ Ts) (hstat : Cond.static arraycopyName ∈ Ts) (hini : Cond.initialized "java/lang/System" ∈ Ts)
    {q0 q1 : Nat} (hq0 : q0 < N) (hq1 : q1 < N) {cA : ClassId} {n0 n1 : Nat} (hE0 : ∀ r, E q0 r = .inl (cA, n0, .inl r)) (hE1 : ∀ r, E q1 r = .inl (cA, n1, .inl r)) (t0 : Nat) (ht : tys[t0]? = some (cA, .int)) {sp dp n : Int32} (h : ¬ sp < 0 ∧ ¬ dp < 0 ∧ ¬ n < 0 ∧ sp.toNatClampNeg + n.toNatClampNeg ≤ n0 ∧ dp.toNatClampNeg + n.toNatClampNeg ≤ n1)
    (hframes : 1 ≤ R.frames) (hlocals : (rest.map fun v => v.category).sum + (nativeFrameWords "java/lang/System" "arraycopy" 5 + 11) ≤ R.locals) (hdg : decode cc pc = .ok (.invokestatic index, 3))
    (kk : ∀ (H1 : Heap) (locs1 : List Loc), va_P D vwCl (wx_w N E ad (va_up σ q1 (va_cpy (σ q0) (σ q1) sp.toNatClampNeg dp.toNatClampNeg n.toNatClampNeg))) H1 → va_D A (wx_w N E ad (va_up σ q1 (va_cpy (σ q0) (σ q1) sp.toNatClampNeg dp.toNatClampNeg n.toNatClampNeg))) → va_S A s.heap H1 locs1 → W p l e R s m args below meth c H1 locs1 0 0 Q (F0 m (pc + 3) ls rest)) : W p l e R s m args below meth c H locs 0 0 Q (F0 m pc ls (.int n :: .int dp :: .ref (ad q1) :: .int sp :: .ref (ad q0) :: rest)) := by
  have hts := C.1.2.2.2.2
  refine va_copyi C.1.1 C.1.2.1 (C.1.2.2.1.trans hsz.symm) C.1.2.2.2.1 (hts _ hlink) (hts _ hnat) (hts _ hstat) (hts _ hini) C.2.2.1 hP hD hS q0 q1 t0 t0 (ty := .int) (by rw [wx_at hq0, hE0]) (by rw [wx_at hq1, hE1]) ht ht rfl h.1 h.2.1 h.2.2.1 h.2.2.2.1 h.2.2.2.2 (fun _ _ => rfl) hframes hlocals hdg (fun H1 locs1 hP1 hD1 hS1 => ?_)
  rw [wx_set hq1 _ (hE1 _)] at hP1 hD1
  exact kk H1 locs1 hP1 hD1 hS1
end WXA
theorem wx_meti {l : Launch} {y : MethodName} {ws ws' : List Cond} {rm : Room} {cc : ByteArray} {maxL : Nat} {own : String} {D : va_G} {tys : List (ClassId × FieldType)} {RO : (Nat → Prop) → State → Heap → Prop} {N : Nat} {E : Nat → (Nat → Int32) → va_E} {ad : Nat → Nat} {σ : wx_Z} {sz : Nat} {av : List Value} {K : Int32 → wx_Z → Prop} (hown : y.cls = own) (hy : plainName y.cls = true) (hw : ws = Cond.code y cc maxL (some .int) :: ws') (hn : (lg_sl av).length ≤ maxL) (hRO : wx_RoT RO)
    (body : ∀ (p : Program) (e : Env) (s : State) (m : MethodId) (args : Array Value) (below : List Frame) (meth : Method) (c : Code) (A : Nat → Prop) (Q : State → Prop) (ls : Array Slot), wx_C p s m args c cc maxL own ws D tys RO A → wx_Ri p l e rm s m args below meth c cc D N E ad A K Q → va_P D vwCl (wx_w N E ad σ) s.heap → va_D A (wx_w N E ad σ) → va_S A s.heap s.heap [] → lv_has ls maxL (lv_args 0 av) → W p l e rm s m args below meth c s.heap [] 0 0 Q (F0 m 0 ls [])) :
    Met l y ws rm (wx_Pre D tys RO N E ad σ sz av) (va_Qi K (wx_B D tys N E ad (va_A (wx_w N E ad σ) sz)) (va_A (wx_w N E ad σ) sz)) 0 0 (va_A (wx_w N E ad σ) sz) := by
  refine Met.ofW (cc := cc) (maxL := maxL) (ret := some .int) hy hw ?_
  intro p e s m args below meth c s₁ B hml hv
  obtain ⟨rfl, hsz, hP, hK, hD0, hro⟩ := hv
  subst hsz
  have hD := hD0.self (sz := s.heap.size)
  have hl := lv_entry av (n := maxL) hn
  rw [lg_entry_eq]
  refine body p e s m _ below meth c (va_A (wx_w N E ad σ) s.heap.size) _ _ ⟨⟨B.exec, B.bytes, hml, by rw [← hown]; exact findClass_of_methodNamed B.named, atoms_spec (ws := ws) B.pre⟩, fun q h => Or.inr h, hK, hRO, hro⟩ ?_ hP hD va_S.rf hl
  intro v σ' H locs pc ls hk hP' hD' hS' hdg
  exact W.iret (v := v) B.exec B.bytes B.returns (fun t ht hW => ⟨⟨v, σ', rfl, hk, by rw [ht]; exact hP', va_K.moved hW.alike hK, hD'⟩, hS'.F ht⟩) hS'.2.2 hdg
theorem wx_metz {ty : FieldType} {l : Launch} {y : MethodName} {ws ws' : List Cond} {rm : Room} {cc : ByteArray} {maxL : Nat} {own : String} {D : va_G} {tys : List (ClassId × FieldType)} {RO : (Nat → Prop) → State → Heap → Prop} {N : Nat} {E : Nat → (Nat → Int32) → va_E} {ad : Nat → Nat} {σ : wx_Z} {sz : Nat} {av : List Value} {K : Int32 → wx_Z → Prop} (hown : y.cls = own) (hy : plainName y.cls = true) (hw : ws = Cond.code y cc maxL (some ty) :: ws') (hn : (lg_sl av).length ≤ maxL) (hRO : wx_RoT RO)
    (body : ∀ (p : Program) (e : Env) (s : State) (m : MethodId) (args : Array Value) (below : List Frame) (meth : Method) (c : Code) (A : Nat → Prop) (Q : State → Prop) (ls : Array Slot), wx_C p s m args c cc maxL own ws D tys RO A → wx_Rz ty p l e rm s m args below meth c cc D N E ad A K Q → va_P D vwCl (wx_w N E ad σ) s.heap → va_D A (wx_w N E ad σ) → va_S A s.heap s.heap [] → lv_has ls maxL (lv_args 0 av) → W p l e rm s m args below meth c s.heap [] 0 0 Q (F0 m 0 ls [])) :
    Met l y ws rm (wx_Pre D tys RO N E ad σ sz av) (va_Qi K (wx_B D tys N E ad (va_A (wx_w N E ad σ) sz)) (va_A (wx_w N E ad σ) sz)) 0 0 (va_A (wx_w N E ad σ) sz) := by
  refine Met.ofW (cc := cc) (maxL := maxL) (ret := some ty) hy hw ?_
  intro p e s m args below meth c s₁ B hml hv
  obtain ⟨rfl, hsz, hP, hK, hD0, hro⟩ := hv
  subst hsz
  have hD := hD0.self (sz := s.heap.size)
  have hl := lv_entry av (n := maxL) hn
  rw [lg_entry_eq]
  refine body p e s m _ below meth c (va_A (wx_w N E ad σ) s.heap.size) _ _ ⟨⟨B.exec, B.bytes, hml, by rw [← hown]; exact findClass_of_methodNamed B.named, atoms_spec (ws := ws) B.pre⟩, fun q h => Or.inr h, hK, hRO, hro⟩ ?_ hP hD va_S.rf hl
  intro v σ' H locs pc ls hnw hk hP' hD' hS' hdg
  exact W.zret (v := v) (ty := ty) B.exec B.bytes B.returns hnw (fun t ht hW => ⟨⟨v, σ', rfl, hk, by rw [ht]; exact hP', va_K.moved hW.alike hK, hD'⟩, hS'.F ht⟩) hS'.2.2 hdg
theorem wx_metl {l : Launch} {y : MethodName} {ws ws' : List Cond} {rm : Room} {cc : ByteArray} {maxL : Nat} {own : String} {D : va_G} {tys : List (ClassId × FieldType)} {RO : (Nat → Prop) → State → Heap → Prop} {N : Nat} {E : Nat → (Nat → Int32) → va_E} {ad : Nat → Nat} {σ : wx_Z} {sz : Nat} {av : List Value} {K : Int64 → wx_Z → Prop} (hown : y.cls = own) (hy : plainName y.cls = true) (hw : ws = Cond.code y cc maxL (some .long) :: ws') (hn : (lg_sl av).length ≤ maxL) (hRO : wx_RoT RO)
    (body : ∀ (p : Program) (e : Env) (s : State) (m : MethodId) (args : Array Value) (below : List Frame) (meth : Method) (c : Code) (A : Nat → Prop) (Q : State → Prop) (ls : Array Slot), wx_C p s m args c cc maxL own ws D tys RO A → wx_Rl p l e rm s m args below meth c cc D N E ad A K Q → va_P D vwCl (wx_w N E ad σ) s.heap → va_D A (wx_w N E ad σ) → va_S A s.heap s.heap [] → lv_has ls maxL (lv_args 0 av) → W p l e rm s m args below meth c s.heap [] 0 0 Q (F0 m 0 ls [])) :
    Met l y ws rm (wx_Pre D tys RO N E ad σ sz av) (va_Ql K (wx_B D tys N E ad (va_A (wx_w N E ad σ) sz)) (va_A (wx_w N E ad σ) sz)) 0 0 (va_A (wx_w N E ad σ) sz) := by
  refine Met.ofW (cc := cc) (maxL := maxL) (ret := some .long) hy hw ?_
  intro p e s m args below meth c s₁ B hml hv
  obtain ⟨rfl, hsz, hP, hK, hD0, hro⟩ := hv
  subst hsz
  have hD := hD0.self (sz := s.heap.size)
  have hl := lv_entry av (n := maxL) hn
  rw [lg_entry_eq]
  refine body p e s m _ below meth c (va_A (wx_w N E ad σ) s.heap.size) _ _ ⟨⟨B.exec, B.bytes, hml, by rw [← hown]; exact findClass_of_methodNamed B.named, atoms_spec (ws := ws) B.pre⟩, fun q h => Or.inr h, hK, hRO, hro⟩ ?_ hP hD va_S.rf hl
  intro v σ' H locs pc ls hk hP' hD' hS' hdg
  exact W.lret (v := v) B.exec B.bytes B.returns (fun t ht hW => ⟨⟨v, σ', rfl, hk, by rw [ht]; exact hP', va_K.moved hW.alike hK, hD'⟩, hS'.F ht⟩) hS'.2.2 hdg
theorem wx_metv {l : Launch} {y : MethodName} {ws ws' : List Cond} {rm : Room} {cc : ByteArray} {maxL : Nat} {own : String} {D : va_G} {tys : List (ClassId × FieldType)} {RO : (Nat → Prop) → State → Heap → Prop} {N : Nat} {E : Nat → (Nat → Int32) → va_E} {ad : Nat → Nat} {σ : wx_Z} {sz : Nat} {av : List Value} {K : wx_Z → Prop} (hown : y.cls = own) (hy : plainName y.cls = true) (hw : ws = Cond.code y cc maxL none :: ws') (hn : (lg_sl av).length ≤ maxL) (hRO : wx_RoT RO)
    (body : ∀ (p : Program) (e : Env) (s : State) (m : MethodId) (args : Array Value) (below : List Frame) (meth : Method) (c : Code) (A : Nat → Prop) (Q : State → Prop) (ls : Array Slot), wx_C p s m args c cc maxL own ws D tys RO A → wx_Rv p l e rm s m args below meth c cc D N E ad A K Q → va_P D vwCl (wx_w N E ad σ) s.heap → va_D A (wx_w N E ad σ) → va_S A s.heap s.heap [] → lv_has ls maxL (lv_args 0 av) → W p l e rm s m args below meth c s.heap [] 0 0 Q (F0 m 0 ls [])) :
    Met l y ws rm (wx_Pre D tys RO N E ad σ sz av) (va_Qv K (wx_B D tys N E ad (va_A (wx_w N E ad σ) sz)) (va_A (wx_w N E ad σ) sz)) 0 0 (va_A (wx_w N E ad σ) sz) := by
  refine Met.ofW (cc := cc) (maxL := maxL) (ret := none) hy hw ?_
  intro p e s m args below meth c s₁ B hml hv
  obtain ⟨rfl, hsz, hP, hK, hD0, hro⟩ := hv
  subst hsz
  have hD := hD0.self (sz := s.heap.size)
  have hl := lv_entry av (n := maxL) hn
  rw [lg_entry_eq]
  refine body p e s m _ below meth c (va_A (wx_w N E ad σ) s.heap.size) _ _ ⟨⟨B.exec, B.bytes, hml, by rw [← hown]; exact findClass_of_methodNamed B.named, atoms_spec (ws := ws) B.pre⟩, fun q h => Or.inr h, hK, hRO, hro⟩ ?_ hP hD va_S.rf hl
  intro σ' H locs pc ls hk hP' hD' hS' hdg
  exact W.vret B.exec B.bytes B.returns (fun t ht hW => ⟨⟨σ', rfl, hk, by rw [ht]; exact hP', va_K.moved hW.alike hK, hD'⟩, hS'.F ht⟩) hS'.2.2 hdg
def wx_T0 : (Nat → Prop) → State → Heap → Prop := fun _ _ _ => True
theorem wx_T0_ok : wx_RoT wx_T0 := ⟨fun _ _ _ _ _ _ _ _ _ _ _ => trivial, fun _ _ _ _ _ _ => trivial⟩
