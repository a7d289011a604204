/-- the links to private members of nest mates -/
def NW (U : State) : Prop := (va_Nw (.methodLinkNest RX7 9 yX6_init "FoldRule") U ∧ va_Nw (.fieldLinkNest RX7 81 "FoldRule$Text" "size" "I" "FoldRule") U ∧ va_Nw (.fieldLinkNest RX7 100 "FoldRule$Text" "items" "I" "FoldRule") U ∧ va_Nw (.methodLinkNest RX7 18 yX5_init "FoldRule") U ∧ va_Nw (.fieldLinkNest RX2 38 "FoldRule$Strip" "lengths" "[I" "FoldRule") U ∧ va_Nw (.fieldLinkNest RX2 19 "FoldRule$Strip" "links" "I" "FoldRule") U ∧ va_Nw (.fieldLinkNest RX7 131 "FoldRule$Strip" "links" "I" "FoldRule") U ∧ va_Nw (.fieldLinkNest RX7 121 "FoldRule$Strip" "folded" "I" "FoldRule") U ∧ va_Nw (.fieldLinkNest RX6 69 "FoldRule$Strip" "folded" "I" "FoldRule") U ∧ va_Nw (.fieldLinkNest RX0 56 "FoldRule$Strip" "folded" "I" "FoldRule") U ∧ va_Nw (.fieldLinkNest RX7 128 "FoldRule$Strip" "stiff" "I" "FoldRule") U ∧ va_Nw (.fieldLinkNest RX6 72 "FoldRule$Strip" "stiff" "I" "FoldRule") U ∧ va_Nw (.fieldLinkNest RX0 85 "FoldRule$Strip" "stiff" "I" "FoldRule") U ∧ va_Nw (.methodLinkNest RX1 17 yX5_init "FoldRule") U ∧ va_Nw (.fieldLinkNest RX7 157 "FoldRule$History" "size" "I" "FoldRule") U ∧ va_Nw (.methodLinkNest RX7 43 yX2_init "FoldRule") U ∧ va_Nw (.fieldLinkNest RX0 76 "FoldRule$Lay" "links" "I" "FoldRule") U ∧ va_Nw (.methodLinkNest RX7 50 yX0_init "FoldRule") U ∧ va_Nw (.methodLinkNest RX0 11 yX2_init "FoldRule") U ∧ va_Nw (.methodLinkNest RX7 57 yX4_init "FoldRule") U ∧ va_Nw (.methodLinkNest RX4 27 yX2_init "FoldRule") U ∧ va_Nw (.fieldLinkNest RX7 213 "FoldRule$Sightings" "size" "I" "FoldRule") U ∧ va_Nw (.methodLinkNest RX7 64 yX3_init "FoldRule") U ∧ va_Nw (.fieldLinkNest RX7 227 "FoldRule$Rater" "traced" "J" "FoldRule") U ∧ va_Nw (.methodLinkNest RX6 61 yX7_isWithin "FoldRule") U ∧ va_Nw (.methodLinkNest RX6 75 yX7_hasBit "FoldRule") U ∧ va_Nw (.methodLinkNest RX2 44 yX7_hasBit "FoldRule") U ∧ va_Nw (.methodLinkNest RX0 88 yX7_power "FoldRule") U ∧ va_Nw (.methodLinkNest RX4 83 yX7_isWithin "FoldRule") U) ∧ va_AO "FoldRule$Strip" U
theorem NW.warm {s U : State} (hW : s.WarmedH U.vm) (h : NW s) : NW U := ⟨⟨va_Nw.warmM hW (h.1.1), va_Nw.warmF hW (h.1.2.1), va_Nw.warmF hW (h.1.2.2.1), va_Nw.warmM hW (h.1.2.2.2.1), va_Nw.warmF hW (h.1.2.2.2.2.1), va_Nw.warmF hW (h.1.2.2.2.2.2.1), va_Nw.warmF hW (h.1.2.2.2.2.2.2.1), va_Nw.warmF hW (h.1.2.2.2.2.2.2.2.1), va_Nw.warmF hW (h.1.2.2.2.2.2.2.2.2.1), va_Nw.warmF hW (h.1.2.2.2.2.2.2.2.2.2.1), va_Nw.warmF hW (h.1.2.2.2.2.2.2.2.2.2.2.1), va_Nw.warmF hW (h.1.2.2.2.2.2.2.2.2.2.2.2.1), va_Nw.warmF hW (h.1.2.2.2.2.2.2.2.2.2.2.2.2.1), va_Nw.warmM hW (h.1.2.2.2.2.2.2.2.2.2.2.2.2.2.1), va_Nw.warmF hW (h.1.2.2.2.2.2.2.2.2.2.2.2.2.2.2.1), va_Nw.warmM hW (h.1.2.2.2.2.2.2.2.2.2.2.2.2.2.2.2.1), va_Nw.warmF hW (h.1.2.2.2.2.2.2.2.2.2.2.2.2.2.2.2.2.1), va_Nw.warmM hW (h.1.2.2.2.2.2.2.2.2.2.2.2.2.2.2.2.2.2.1), va_Nw.warmM hW (h.1.2.2.2.2.2.2.2.2.2.2.2.2.2.2.2.2.2.2.1), va_Nw.warmM hW (h.1.2.2.2.2.2.2.2.2.2.2.2.2.2.2.2.2.2.2.2.1), va_Nw.warmM hW (h.1.2.2.2.2.2.2.2.2.2.2.2.2.2.2.2.2.2.2.2.2.1), va_Nw.warmF hW (h.1.2.2.2.2.2.2.2.2.2.2.2.2.2.2.2.2.2.2.2.2.2.1), va_Nw.warmM hW (h.1.2.2.2.2.2.2.2.2.2.2.2.2.2.2.2.2.2.2.2.2.2.2.1), va_Nw.warmF hW (h.1.2.2.2.2.2.2.2.2.2.2.2.2.2.2.2.2.2.2.2.2.2.2.2.1), va_Nw.warmM hW (h.1.2.2.2.2.2.2.2.2.2.2.2.2.2.2.2.2.2.2.2.2.2.2.2.2.1), va_Nw.warmM hW (h.1.2.2.2.2.2.2.2.2.2.2.2.2.2.2.2.2.2.2.2.2.2.2.2.2.2.1), va_Nw.warmM hW (h.1.2.2.2.2.2.2.2.2.2.2.2.2.2.2.2.2.2.2.2.2.2.2.2.2.2.2.1), va_Nw.warmM hW (h.1.2.2.2.2.2.2.2.2.2.2.2.2.2.2.2.2.2.2.2.2.2.2.2.2.2.2.2.1), va_Nw.warmM hW (h.1.2.2.2.2.2.2.2.2.2.2.2.2.2.2.2.2.2.2.2.2.2.2.2.2.2.2.2.2)⟩, va_AO.moved hW.alike h.2⟩
theorem NW.same {s U : State} (e : s.vm = U.vm) (h : NW s) : NW U := ⟨⟨va_Nw.same rfl e (h.1.1), va_Nw.same rfl e (h.1.2.1), va_Nw.same rfl e (h.1.2.2.1), va_Nw.same rfl e (h.1.2.2.2.1), va_Nw.same rfl e (h.1.2.2.2.2.1), va_Nw.same rfl e (h.1.2.2.2.2.2.1), va_Nw.same rfl e (h.1.2.2.2.2.2.2.1), va_Nw.same rfl e (h.1.2.2.2.2.2.2.2.1), va_Nw.same rfl e (h.1.2.2.2.2.2.2.2.2.1), va_Nw.same rfl e (h.1.2.2.2.2.2.2.2.2.2.1), va_Nw.same rfl e (h.1.2.2.2.2.2.2.2.2.2.2.1), va_Nw.same rfl e (h.1.2.2.2.2.2.2.2.2.2.2.2.1), va_Nw.same rfl e (h.1.2.2.2.2.2.2.2.2.2.2.2.2.1), va_Nw.same rfl e (h.1.2.2.2.2.2.2.2.2.2.2.2.2.2.1), va_Nw.same rfl e (h.1.2.2.2.2.2.2.2.2.2.2.2.2.2.2.1), va_Nw.same rfl e (h.1.2.2.2.2.2.2.2.2.2.2.2.2.2.2.2.1), va_Nw.same rfl e (h.1.2.2.2.2.2.2.2.2.2.2.2.2.2.2.2.2.1), va_Nw.same rfl e (h.1.2.2.2.2.2.2.2.2.2.2.2.2.2.2.2.2.2.1), va_Nw.same rfl e (h.1.2.2.2.2.2.2.2.2.2.2.2.2.2.2.2.2.2.2.1), va_Nw.same rfl e (h.1.2.2.2.2.2.2.2.2.2.2.2.2.2.2.2.2.2.2.2.1), va_Nw.same rfl e (h.1.2.2.2.2.2.2.2.2.2.2.2.2.2.2.2.2.2.2.2.2.1), va_Nw.same rfl e (h.1.2.2.2.2.2.2.2.2.2.2.2.2.2.2.2.2.2.2.2.2.2.1), va_Nw.same rfl e (h.1.2.2.2.2.2.2.2.2.2.2.2.2.2.2.2.2.2.2.2.2.2.2.1), va_Nw.same rfl e (h.1.2.2.2.2.2.2.2.2.2.2.2.2.2.2.2.2.2.2.2.2.2.2.2.1), va_Nw.same rfl e (h.1.2.2.2.2.2.2.2.2.2.2.2.2.2.2.2.2.2.2.2.2.2.2.2.2.1), va_Nw.same rfl e (h.1.2.2.2.2.2.2.2.2.2.2.2.2.2.2.2.2.2.2.2.2.2.2.2.2.2.1), va_Nw.same rfl e (h.1.2.2.2.2.2.2.2.2.2.2.2.2.2.2.2.2.2.2.2.2.2.2.2.2.2.2.1), va_Nw.same rfl e (h.1.2.2.2.2.2.2.2.2.2.2.2.2.2.2.2.2.2.2.2.2.2.2.2.2.2.2.2.1), va_Nw.same rfl e (h.1.2.2.2.2.2.2.2.2.2.2.2.2.2.2.2.2.2.2.2.2.2.2.2.2.2.2.2.2)⟩, va_AO.moved (by rw [e]; exact Vm.Alike.refl _) h.2⟩
theorem nwX7_9 {U : State} (h : NW U) : va_Nw (.methodLinkNest RX7 9 yX6_init "FoldRule") U := h.1.1
theorem nwX7_81 {U : State} (h : NW U) : va_Nw (.fieldLinkNest RX7 81 "FoldRule$Text" "size" "I" "FoldRule") U := h.1.2.1
theorem nwX7_100 {U : State} (h : NW U) : va_Nw (.fieldLinkNest RX7 100 "FoldRule$Text" "items" "I" "FoldRule") U := h.1.2.2.1
theorem nwX7_18 {U : State} (h : NW U) : va_Nw (.methodLinkNest RX7 18 yX5_init "FoldRule") U := h.1.2.2.2.1
theorem nwX2_38 {U : State} (h : NW U) : va_Nw (.fieldLinkNest RX2 38 "FoldRule$Strip" "lengths" "[I" "FoldRule") U := h.1.2.2.2.2.1
theorem nwX2_19 {U : State} (h : NW U) : va_Nw (.fieldLinkNest RX2 19 "FoldRule$Strip" "links" "I" "FoldRule") U := h.1.2.2.2.2.2.1
theorem nwX7_131 {U : State} (h : NW U) : va_Nw (.fieldLinkNest RX7 131 "FoldRule$Strip" "links" "I" "FoldRule") U := h.1.2.2.2.2.2.2.1
theorem nwX7_121 {U : State} (h : NW U) : va_Nw (.fieldLinkNest RX7 121 "FoldRule$Strip" "folded" "I" "FoldRule") U := h.1.2.2.2.2.2.2.2.1
theorem nwX6_69 {U : State} (h : NW U) : va_Nw (.fieldLinkNest RX6 69 "FoldRule$Strip" "folded" "I" "FoldRule") U := h.1.2.2.2.2.2.2.2.2.1
theorem nwX0_56 {U : State} (h : NW U) : va_Nw (.fieldLinkNest RX0 56 "FoldRule$Strip" "folded" "I" "FoldRule") U := h.1.2.2.2.2.2.2.2.2.2.1
theorem nwX7_128 {U : State} (h : NW U) : va_Nw (.fieldLinkNest RX7 128 "FoldRule$Strip" "stiff" "I" "FoldRule") U := h.1.2.2.2.2.2.2.2.2.2.2.1
theorem nwX6_72 {U : State} (h : NW U) : va_Nw (.fieldLinkNest RX6 72 "FoldRule$Strip" "stiff" "I" "FoldRule") U := h.1.2.2.2.2.2.2.2.2.2.2.2.1
theorem nwX0_85 {U : State} (h : NW U) : va_Nw (.fieldLinkNest RX0 85 "FoldRule$Strip" "stiff" "I" "FoldRule") U := h.1.2.2.2.2.2.2.2.2.2.2.2.2.1
theorem nwX1_17 {U : State} (h : NW U) : va_Nw (.methodLinkNest RX1 17 yX5_init "FoldRule") U := h.1.2.2.2.2.2.2.2.2.2.2.2.2.2.1
theorem nwX7_157 {U : State} (h : NW U) : va_Nw (.fieldLinkNest RX7 157 "FoldRule$History" "size" "I" "FoldRule") U := h.1.2.2.2.2.2.2.2.2.2.2.2.2.2.2.1
theorem nwX7_43 {U : State} (h : NW U) : va_Nw (.methodLinkNest RX7 43 yX2_init "FoldRule") U := h.1.2.2.2.2.2.2.2.2.2.2.2.2.2.2.2.1
theorem nwX0_76 {U : State} (h : NW U) : va_Nw (.fieldLinkNest RX0 76 "FoldRule$Lay" "links" "I" "FoldRule") U := h.1.2.2.2.2.2.2.2.2.2.2.2.2.2.2.2.2.1
theorem nwX7_50 {U : State} (h : NW U) : va_Nw (.methodLinkNest RX7 50 yX0_init "FoldRule") U := h.1.2.2.2.2.2.2.2.2.2.2.2.2.2.2.2.2.2.1
theorem nwX0_11 {U : State} (h : NW U) : va_Nw (.methodLinkNest RX0 11 yX2_init "FoldRule") U := h.1.2.2.2.2.2.2.2.2.2.2.2.2.2.2.2.2.2.2.1
theorem nwX7_57 {U : State} (h : NW U) : va_Nw (.methodLinkNest RX7 57 yX4_init "FoldRule") U := h.1.2.2.2.2.2.2.2.2.2.2.2.2.2.2.2.2.2.2.2.1
theorem nwX4_27 {U : State} (h : NW U) : va_Nw (.methodLinkNest RX4 27 yX2_init "FoldRule") U := h.1.2.2.2.2.2.2.2.2.2.2.2.2.2.2.2.2.2.2.2.2.1
theorem nwX7_213 {U : State} (h : NW U) : va_Nw (.fieldLinkNest RX7 213 "FoldRule$Sightings" "size" "I" "FoldRule") U := h.1.2.2.2.2.2.2.2.2.2.2.2.2.2.2.2.2.2.2.2.2.2.1
theorem nwX7_64 {U : State} (h : NW U) : va_Nw (.methodLinkNest RX7 64 yX3_init "FoldRule") U := h.1.2.2.2.2.2.2.2.2.2.2.2.2.2.2.2.2.2.2.2.2.2.2.1
theorem nwX7_227 {U : State} (h : NW U) : va_Nw (.fieldLinkNest RX7 227 "FoldRule$Rater" "traced" "J" "FoldRule") U := h.1.2.2.2.2.2.2.2.2.2.2.2.2.2.2.2.2.2.2.2.2.2.2.2.1
theorem nwX6_61 {U : State} (h : NW U) : va_Nw (.methodLinkNest RX6 61 yX7_isWithin "FoldRule") U := h.1.2.2.2.2.2.2.2.2.2.2.2.2.2.2.2.2.2.2.2.2.2.2.2.2.1
theorem nwX6_75 {U : State} (h : NW U) : va_Nw (.methodLinkNest RX6 75 yX7_hasBit "FoldRule") U := h.1.2.2.2.2.2.2.2.2.2.2.2.2.2.2.2.2.2.2.2.2.2.2.2.2.2.1
theorem nwX2_44 {U : State} (h : NW U) : va_Nw (.methodLinkNest RX2 44 yX7_hasBit "FoldRule") U := h.1.2.2.2.2.2.2.2.2.2.2.2.2.2.2.2.2.2.2.2.2.2.2.2.2.2.2.1
theorem nwX0_88 {U : State} (h : NW U) : va_Nw (.methodLinkNest RX0 88 yX7_power "FoldRule") U := h.1.2.2.2.2.2.2.2.2.2.2.2.2.2.2.2.2.2.2.2.2.2.2.2.2.2.2.2.1
theorem nwX4_83 {U : State} (h : NW U) : va_Nw (.methodLinkNest RX4 83 yX7_isWithin "FoldRule") U := h.1.2.2.2.2.2.2.2.2.2.2.2.2.2.2.2.2.2.2.2.2.2.2.2.2.2.2.2.2

abbrev tyS (Y : ClassId × ClassId × ClassId) : List (ClassId × FieldType) := [(Y.1, .int), (Y.2.1, .boolean), (Y.2.2, .object "FoldRule$Strip")]
def WPre (D : va_G) (Y : ClassId × ClassId × ClassId) (wd : va_W) (sz : Nat) (U : State) : Prop := U.heap.size = sz ∧ va_P D vwCl wd U.heap ∧ va_K D vwCl (tyS Y) U ∧ va_D (fun _ => True) wd ∧ NW U
def WPost (D : va_G) (Y : ClassId × ClassId × ClassId) {S : Type} (wd' : S → va_W) (A : Nat → Prop) (u : S) (t : State) : Prop := va_P D vwCl (wd' u) t.heap ∧ va_K D vwCl (tyS Y) t ∧ va_D A (wd' u)
abbrev QI (below : List Frame) (args : Array Value) (s : State) (D : va_G) (Y : ClassId × ClassId × ClassId) (A : Nat → Prop) {S : Type} (post : Int32 → S → Prop) (wd' : S → va_W) : State → Prop := MQ below (va_Qi post (WPost D Y wd' A) A) args s 0 0 A
abbrev QL (below : List Frame) (args : Array Value) (s : State) (D : va_G) (Y : ClassId × ClassId × ClassId) (A : Nat → Prop) {S : Type} (post : Int64 → S → Prop) (wd' : S → va_W) : State → Prop := MQ below (va_Ql post (WPost D Y wd' A) A) args s 0 0 A
abbrev QV (below : List Frame) (args : Array Value) (s : State) (D : va_G) (Y : ClassId × ClassId × ClassId) (A : Nat → Prop) {S : Type} (post : S → Prop) (wd' : S → va_W) : State → Prop := MQ below (va_Qv post (WPost D Y wd' A) A) args s 0 0 A
abbrev QR (below : List Frame) (args : Array Value) (s : State) (D : va_G) (Y : ClassId × ClassId × ClassId) (A : Nat → Prop) (ad : Nat) {S : Type} (post : S → Prop) (wd' : S → va_W) : State → Prop := MQ below (va_Qr post (fun u a t => a = ad ∧ WPost D Y wd' A u t) A) args s 0 0 A
/-- what a walk has of its method -/
def Ctx (p : Program) (s : State) (m : MethodId) (args : Array Value) (meth : Method) (c : Code) (cc : ByteArray) (nL : Nat) (ret : Option FieldType) (Ts : List Cond) (own : String) : Prop := CallFix p m c cc nL s args Ts own ∧ meth.sig.returnType = ret ∧ meth.locks = false ∧ NW s
theorem ct_W {l : Launch} {y : MethodName} {ws ws' : List Cond} {rm : Room} {cc : ByteArray} {nL : Nat} {ret : Option FieldType} {as : List Value} {D : va_G} {Y : ClassId × ClassId × ClassId} {wd : va_W} {Qc : (Nat → Prop) → Array Value → State → Outcome → State → Prop}
    (hy : plainName y.cls = true) (hw : ws = Cond.code y cc nL ret :: ws') (hlen : (lg_sl as).length ≤ nL)
    (body : ∀ (p : Program) (e : Env) (s : State) (m : MethodId) (below : List Frame) (meth : Method) (c : Code) (A : Nat → Prop) (ls : Array Slot), Ctx p s m as.toArray meth c cc nL ret ws y.cls → va_K D vwCl (tyS Y) s → (∀ q, s.heap.size ≤ q → A q) → va_P D vwCl wd s.heap → va_D A wd → va_S A s.heap s.heap [] → lv_has ls nL (lv_args 0 as) →
      W p l e rm s m as.toArray below meth c s.heap [] 0 0 (MQ below (Qc A) as.toArray s 0 0 A) (F0 m 0 ls [])) (sz : Nat) : Met l y ws rm (va_Pc as (WPre D Y wd sz)) (Qc (va_A wd sz)) 0 0 (va_A wd sz) := by
  refine Met.ofW (cc := cc) (maxL := nL) (ret := ret) hy hw ?_
  intro p e s m args below meth c s₁ B hml hv
  obtain ⟨rfl, hsz, hP, hK, hD0, hN⟩ := hv
  subst hsz
  rw [lg_entry_eq]
  exact body p e s m below meth c _ _ ⟨⟨B.exec, B.bytes, hml, findClass_of_methodNamed B.named, atoms_spec (ws := ws) B.pre⟩, B.returns, B.notSynchronized, hN⟩ hK (fun q h => Or.inr h) hP hD0.self va_S.rf (lv_entry as hlen)
abbrev MtI (l : Launch) (y : MethodName) (ws : List Cond) (rm : Room) (as : List Value) (D : va_G) (Y : ClassId × ClassId × ClassId) (wd : va_W) {S : Type} (post : Int32 → S → Prop) (wd' : S → va_W) (sz : Nat) : Prop := Met l y ws rm (va_Pc as (WPre D Y wd sz)) (va_Qi post (WPost D Y wd' (va_A wd sz)) (va_A wd sz)) 0 0 (va_A wd sz)
abbrev MtL (l : Launch) (y : MethodName) (ws : List Cond) (rm : Room) (as : List Value) (D : va_G) (Y : ClassId × ClassId × ClassId) (wd : va_W) {S : Type} (post : Int64 → S → Prop) (wd' : S → va_W) (sz : Nat) : Prop := Met l y ws rm (va_Pc as (WPre D Y wd sz)) (va_Ql post (WPost D Y wd' (va_A wd sz)) (va_A wd sz)) 0 0 (va_A wd sz)
abbrev MtV (l : Launch) (y : MethodName) (ws : List Cond) (rm : Room) (as : List Value) (D : va_G) (Y : ClassId × ClassId × ClassId) (wd : va_W) {S : Type} (post : S → Prop) (wd' : S → va_W) (sz : Nat) : Prop := Met l y ws rm (va_Pc as (WPre D Y wd sz)) (va_Qv post (WPost D Y wd' (va_A wd sz)) (va_A wd sz)) 0 0 (va_A wd sz)
abbrev MtR (l : Launch) (y : MethodName) (ws : List Cond) (rm : Room) (as : List Value) (D : va_G) (Y : ClassId × ClassId × ClassId) (wd : va_W) (ad : Nat) {S : Type} (post : S → Prop) (wd' : S → va_W) (sz : Nat) : Prop := Met l y ws rm (va_Pc as (WPre D Y wd sz)) (va_Qr post (fun u a t => a = ad ∧ WPost D Y wd' (va_A wd sz) u t) (va_A wd sz)) 0 0 (va_A wd sz)
section CTW
variable {l : Launch} {y : MethodName} {ws ws' : List Cond} {rm : Room} {cc : ByteArray} {nL : Nat} {ret : Option FieldType} {as : List Value} {D : va_G} {Y : ClassId × ClassId × ClassId} {wd : va_W} {S : Type} {wd' : S → va_W}
theorem ct_i {post : Int32 → S → Prop} (hy : plainName y.cls = true) (hw : ws = Cond.code y cc nL ret :: ws') (hlen : (lg_sl as).length ≤ nL)
    (body : ∀ (p : Program) (e : Env) (s : State) (m : MethodId) (below : List Frame) (meth : Method) (c : Code) (A : Nat → Prop) (ls : Array Slot), Ctx p s m as.toArray meth c cc nL ret ws y.cls → va_K D vwCl (tyS Y) s → (∀ q, s.heap.size ≤ q → A q) → va_P D vwCl wd s.heap → va_D A wd → va_S A s.heap s.heap [] → lv_has ls nL (lv_args 0 as) →
      W p l e rm s m as.toArray below meth c s.heap [] 0 0 (QI below as.toArray s D Y A post wd') (F0 m 0 ls [])) (sz : Nat) : MtI l y ws rm as D Y wd post wd' sz := ct_W (Qc := fun A => va_Qi post (WPost D Y wd' A) A) hy hw hlen body sz
theorem ct_l {post : Int64 → S → Prop} (hy : plainName y.cls = true) (hw : ws = Cond.code y cc nL ret :: ws') (hlen : (lg_sl as).length ≤ nL)
    (body : ∀ (p : Program) (e : Env) (s : State) (m : MethodId) (below : List Frame) (meth : Method) (c : Code) (A : Nat → Prop) (ls : Array Slot), Ctx p s m as.toArray meth c cc nL ret ws y.cls → va_K D vwCl (tyS Y) s → (∀ q, s.heap.size ≤ q → A q) → va_P D vwCl wd s.heap → va_D A wd → va_S A s.heap s.heap [] → lv_has ls nL (lv_args 0 as) →
      W p l e rm s m as.toArray below meth c s.heap [] 0 0 (QL below as.toArray s D Y A post wd') (F0 m 0 ls [])) (sz : Nat) : MtL l y ws rm as D Y wd post wd' sz := ct_W (Qc := fun A => va_Ql post (WPost D Y wd' A) A) hy hw hlen body sz
theorem ct_v {post : S → Prop} (hy : plainName y.cls = true) (hw : ws = Cond.code y cc nL ret :: ws') (hlen : (lg_sl as).length ≤ nL)
    (body : ∀ (p : Program) (e : Env) (s : State) (m : MethodId) (below : List Frame) (meth : Method) (c : Code) (A : Nat → Prop) (ls : Array Slot), Ctx p s m as.toArray meth c cc nL ret ws y.cls → va_K D vwCl (tyS Y) s → (∀ q, s.heap.size ≤ q → A q) → va_P D vwCl wd s.heap → va_D A wd → va_S A s.heap s.heap [] → lv_has ls nL (lv_args 0 as) →
      W p l e rm s m as.toArray below meth c s.heap [] 0 0 (QV below as.toArray s D Y A post wd') (F0 m 0 ls [])) (sz : Nat) : MtV l y ws rm as D Y wd post wd' sz := ct_W (Qc := fun A => va_Qv post (WPost D Y wd' A) A) hy hw hlen body sz
theorem ct_r {post : S → Prop} {ad : Nat} (hy : plainName y.cls = true) (hw : ws = Cond.code y cc nL ret :: ws') (hlen : (lg_sl as).length ≤ nL)
    (body : ∀ (p : Program) (e : Env) (s : State) (m : MethodId) (below : List Frame) (meth : Method) (c : Code) (A : Nat → Prop) (ls : Array Slot), Ctx p s m as.toArray meth c cc nL ret ws y.cls → va_K D vwCl (tyS Y) s → (∀ q, s.heap.size ≤ q → A q) → va_P D vwCl wd s.heap → va_D A wd → va_S A s.heap s.heap [] → lv_has ls nL (lv_args 0 as) →
      W p l e rm s m as.toArray below meth c s.heap [] 0 0 (QR below as.toArray s D Y A ad post wd') (F0 m 0 ls [])) (sz : Nat) : MtR l y ws rm as D Y wd ad post wd' sz := ct_W (Qc := fun A => va_Qr post (fun u a t => a = ad ∧ WPost D Y wd' A u t) A) hy hw hlen body sz
end CTW
section LIBW
variable {p : Program} {l : Launch} {e : Env} {R : Room} {s : State} {m : MethodId} {args : Array Value} {below : List Frame} {meth : Method} {c : Code} {H : Heap} {locs : List Loc} {cells slots : Nat} {Q : State → Prop} {D : va_G} {Y : ClassId × ClassId × ClassId} {A : Nat → Prop} {cc : ByteArray} {pc : Nat} {ls : Array Slot}
theorem ret_i {S : Type} {post : Int32 → S → Prop} {wd' : S → va_W} {v : Int32} (u : S) (hx : p.tables.exec = Jvm.exec) (hb : c.code = cc) (hr : meth.sig.returnType = some .int) (hlocks : meth.locks = false) (hK : va_K D vwCl (tyS Y) s) (hP : va_P D vwCl (wd' u) H) (hD : va_D A (wd' u)) (hS : va_S A s.heap H locs) (h : post v u) (hdg : decode cc pc = .ok (.ireturn, 1)) : W p l e R s m args below meth c H locs 0 0 (QI below args s D Y A post wd') (F0 m pc ls [.int v]) :=
  W.iret (v := v) hx hb hr (fun t ht hW => ⟨⟨v, u, rfl, h, by rw [ht]; exact hP, va_K.moved hW.alike hK, hD⟩, hS.F ht⟩) hS.2.2 hdg hlocks
theorem ret_z {S : Type} {post : Int32 → S → Prop} {wd' : S → va_W} {v : Int32} (u : S) (hx : p.tables.exec = Jvm.exec) (hb : c.code = cc) (hr : meth.sig.returnType = some .boolean) (hlocks : meth.locks = false) (hK : va_K D vwCl (tyS Y) s) (hP : va_P D vwCl (wd' u) H) (hD : va_D A (wd' u)) (hS : va_S A s.heap H locs) (hv : v = 0 ∨ v = 1) (h : post v u) (hdg : decode cc pc = .ok (.ireturn, 1)) : W p l e R s m args below meth c H locs 0 0 (QI below args s D Y A post wd') (F0 m pc ls [.int v]) :=
  W.zret (v := v) hx hb hr (by rcases hv with rfl | rfl <;> rfl) (fun t ht hW => ⟨⟨v, u, rfl, h, by rw [ht]; exact hP, va_K.moved hW.alike hK, hD⟩, hS.F ht⟩) hS.2.2 hdg hlocks
theorem ret_l {S : Type} {post : Int64 → S → Prop} {wd' : S → va_W} {v : Int64} (u : S) (hx : p.tables.exec = Jvm.exec) (hb : c.code = cc) (hr : meth.sig.returnType = some .long) (hlocks : meth.locks = false) (hK : va_K D vwCl (tyS Y) s) (hP : va_P D vwCl (wd' u) H) (hD : va_D A (wd' u)) (hS : va_S A s.heap H locs) (h : post v u) (hdg : decode cc pc = .ok (.lreturn, 1)) : W p l e R s m args below meth c H locs 0 0 (QL below args s D Y A post wd') (F0 m pc ls [.long v]) :=
  W.lret (v := v) hx hb hr (fun t ht hW => ⟨⟨v, u, rfl, h, by rw [ht]; exact hP, va_K.moved hW.alike hK, hD⟩, hS.F ht⟩) hS.2.2 hdg hlocks
theorem ret_v {S : Type} {post : S → Prop} {wd' : S → va_W} (u : S) (hx : p.tables.exec = Jvm.exec) (hb : c.code = cc) (hr : meth.sig.returnType = none) (hlocks : meth.locks = false) (hK : va_K D vwCl (tyS Y) s) (hP : va_P D vwCl (wd' u) H) (hD : va_D A (wd' u)) (hS : va_S A s.heap H locs) (h : post u) (hdg : decode cc pc = .ok (.return_, 1)) : W p l e R s m args below meth c H locs 0 0 (QV below args s D Y A post wd') (F0 m pc ls []) :=
  W.vret hx hb hr (fun t ht hW => ⟨⟨u, rfl, h, by rw [ht]; exact hP, va_K.moved hW.alike hK, hD⟩, hS.F ht⟩) hS.2.2 hdg hlocks
theorem ret_r {S : Type} {post : S → Prop} {wd' : S → va_W} {ad : Nat} {n : String} (u : S) (hx : p.tables.exec = Jvm.exec) (hb : c.code = cc) (hr : meth.sig.returnType = some (.object n)) (hlocks : meth.locks = false) (hK : va_K D vwCl (tyS Y) s) (hP : va_P D vwCl (wd' u) H) (hD : va_D A (wd' u)) (hS : va_S A s.heap H locs) (h : post u) (hdg : decode cc pc = .ok (.areturn, 1)) : W p l e R s m args below meth c H locs 0 0 (QR below args s D Y A ad post wd') (F0 m pc ls [.ref ad]) :=
  W.aret (v := .ref ad) hx hb hr (Or.inl ⟨n, rfl⟩) (Or.inr ⟨ad, rfl⟩) (fun t ht hW => ⟨⟨u, ad, rfl, h, rfl, by rw [ht]; exact hP, va_K.moved hW.alike hK, hD⟩, hS.F ht⟩) hS.2.2 hdg hlocks
theorem pre_S0 {wc : va_W} {as : List Value} {B : Nat → Prop} (hK : va_K D vwCl (tyS Y) s) (hN : NW s) (hPc : va_P D vwCl wc H) (hDc : va_D B wc) : PreS s H (va_Pc as (WPre D Y wc H.size)) as :=
  ⟨fun a U g mk q => by obtain ⟨q0, q1, qP, qK, qD, qN⟩ := q; exact ⟨q0, q1, qP, va_K.moved (u := U) (U := U.calling g mk a) (Vm.Alike.refl U.vm) qK, qD, NW.same rfl qN⟩, fun U hU hW => ⟨rfl, by rw [hU], by rw [hU]; exact hPc, va_K.moved hW.alike hK, hDc.weaken (fun _ _ _ _ => trivial), NW.warm hW hN⟩⟩
theorem P_sub {cl : List vw_C} {ws ws' : va_W} (h : va_P D cl ws H) (is : List Nat) (hs : is.map (fun i => ws[i]?) = ws'.map some) : va_P D cl ws' H := by
  intro k q hk
  have h1 : (is.map (fun i => ws[i]?))[k]? = some (some q) := by rw [hs, List.getElem?_map, hk]; rfl
  rw [List.getElem?_map] at h1
  cases hi : is[k]? with
  | none => rw [hi] at h1; cases h1
  | some i => rw [hi] at h1; exact h i q (Option.some.inj h1)
/-- the cells of a world that a call takes -/
def Pt (ws wc : va_W) (isC : List Nat) : Prop := isC.map (fun i => ws[i]?) = wc.map some ∧ va_nd isC = true
def look : List Nat → va_W → Nat → Option (Nat × va_E)
  | i :: is, q :: qs, j => bif Nat.beq i j then some q else look is qs j
  | _, _, _ => none
def upL (is : List Nat) (qs : va_W) : Nat → va_W → va_W
  | _, [] => []
  | j, w :: t => (look is qs j).getD w :: upL is qs (j + 1) t
abbrev setL (ws : va_W) (is : List Nat) (qs : va_W) : va_W := upL is qs 0 ws
theorem look_some : ∀ (is : List Nat) (qs : va_W) (j : Nat) (x : Nat × va_E), look is qs j = some x → ∃ k : Nat, is[k]? = some j ∧ qs[k]? = some x
  | [], _, j, x, h => by simp [look] at h
  | i :: is, [], j, x, h => by simp [look] at h
  | i :: is, q :: qs, j, x, h => by
    unfold look at h
    cases hb : Nat.beq i j with
    | true =>
      rw [hb] at h
      have e : q = x := Option.some.inj h
      exact ⟨0, by rw [Nat.eq_of_beq_eq_true hb]; rfl, by rw [e]; rfl⟩
    | false =>
      rw [hb] at h
      obtain ⟨k, h1, h2⟩ := look_some is qs j x h
      exact ⟨k + 1, h1, h2⟩
theorem look_none : ∀ (is : List Nat) (qs : va_W) (j : Nat), is.length = qs.length → look is qs j = none → j ∉ is
  | [], _, j, _, _ => List.not_mem_nil
  | i :: is, [], j, hl, _ => by simp at hl
  | i :: is, q :: qs, j, hl, h => by
    unfold look at h
    cases hb : Nat.beq i j with
    | true => rw [hb] at h; cases h
    | false =>
      rw [hb] at h
      intro hm
      rcases List.mem_cons.mp hm with e | e
      · rw [e] at hb
        exact absurd (Nat.beq_refl i) (by rw [hb]; decide)
      · exact look_none is qs j (by simpa using hl) h e
theorem upL_at (is : List Nat) (qs : va_W) : ∀ (ws : va_W) (b j : Nat), (upL is qs b ws)[j]? = (ws[j]?).map (fun w => (look is qs (b + j)).getD w)
  | [], b, j => by simp [upL]
  | w :: t, b, 0 => by simp [upL]
  | w :: t, b, j + 1 => by
    have := upL_at is qs t (b + 1) j
    simp only [upL, List.getElem?_cons_succ]
    rw [this, show b + 1 + j = b + (j + 1) by omega]
theorem setL_at (is : List Nat) (ws qs : va_W) (hl : is.length = qs.length) (j : Nat) (x : Nat × va_E) (h : (setL ws is qs)[j]? = some x) : (j ∉ is ∧ ws[j]? = some x) ∨ ∃ k : Nat, is[k]? = some j ∧ qs[k]? = some x := by
  unfold setL at h
  rw [upL_at, Nat.zero_add] at h
  cases hw : ws[j]? with
  | none => rw [hw] at h; cases h
  | some w =>
    rw [hw] at h
    cases hk : look is qs j with
    | none =>
      rw [hk] at h
      exact Or.inl ⟨look_none is qs j hl hk, h⟩
    | some q =>
      rw [hk] at h
      have e : q = x := Option.some.inj h
      subst e
      exact Or.inr (look_some is qs j q hk)
theorem Pt.at {ws wc : va_W} {isC : List Nat} (hp : Pt ws wc isC) {k : Nat} {q : Nat × va_E} (hq : wc[k]? = some q) : ∃ i : Nat, isC[k]? = some i ∧ ws[i]? = some q := by
  have h1 : (isC.map (fun i => ws[i]?))[k]? = some (some q) := by rw [hp.1, List.getElem?_map, hq]; rfl
  rw [List.getElem?_map] at h1
  cases hi : isC[k]? with
  | none => rw [hi] at h1; cases h1
  | some i => rw [hi] at h1; exact ⟨i, rfl, Option.some.inj h1⟩
theorem after_call {S : Type} {wd' : S → va_W} {ws wc : va_W} {isC : List Nat} {H1 : Heap} {t : State} {u : S} (hp : Pt ws wc isC) (hP : va_P D vwCl ws H) (hD : va_D A ws) (hS : va_S A s.heap H locs) (hA : ∀ q, s.heap.size ≤ q → A q) (hlen : ∀ u, isC.length = (wd' u).length)
    (hk : ∀ q : Nat, q < H.size → ¬ va_A wc H.size q → H1[q]? = H[q]?) (ht : t.heap = H1) (hB : WPost D Y wd' (va_A wc H.size) u t) : va_P D vwCl (setL ws isC (wd' u)) H1 ∧ va_D A (setL ws isC (wd' u)) := by
  obtain ⟨hP1, hK1, hD1⟩ := hB
  rw [ht] at hP1
  have hF := va_free hD hS hA isC hp.1
  have apart : ∀ (j : Nat) (q : Nat × va_E), j ∉ isC → ws[j]? = some q → q.1 < H.size ∧ ¬ va_A wc H.size q.1 := by
    intro j q hj hq
    have hl := (hP j q hq).lt
    refine ⟨hl, fun h => ?_⟩
    rcases h with ⟨k2, e, h⟩ | h
    · obtain ⟨i, h3, h4⟩ := hp.at h
      have hij := hD.1 j i q (q.1, e) hq h4 rfl
      subst hij
      exact hj (List.mem_of_getElem? h3)
    · omega
  refine ⟨fun j q hq => ?_, fun i j x y hx hy hxy => ?_, fun j q hq => ?_⟩
  · rcases setL_at _ _ _ (hlen u) j q hq with ⟨h1, h2⟩ | ⟨k, h1, h2⟩
    · obtain ⟨g1, g2⟩ := apart j q h1 h2
      exact (hP j q h2).kept (hk q.1 g1 g2)
    · exact hP1 k q h2
  · rcases setL_at _ _ _ (hlen u) i x hx with ⟨a1, a2⟩ | ⟨k, a1, a2⟩ <;> rcases setL_at _ _ _ (hlen u) j y hy with ⟨b1, b2⟩ | ⟨k', b1, b2⟩
    · exact hD.1 i j x y a2 b2 hxy
    · exact absurd (by rw [hxy]; exact hD1.2 k' y b2) (apart i x a1 a2).2
    · exact absurd (by rw [← hxy]; exact hD1.2 k x a2) (apart j y b1 b2).2
    · have hkk := hD1.1 k k' x y a2 b2 hxy
      subst hkk
      exact Option.some.inj (a1.symm.trans b1)
  · rcases setL_at _ _ _ (hlen u) j q hq with ⟨h1, h2⟩ | ⟨k, h1, h2⟩
    · exact hD.2 j q h2
    · exact hF q.1 (hD1.2 k q h2)
theorem pre_S {ws wc : va_W} {isC : List Nat} {as : List Value} {B : Nat → Prop} (hp : Pt ws wc isC) (hK : va_K D vwCl (tyS Y) s) (hN : NW s) (hP : va_P D vwCl ws H) (hD : va_D B ws) : PreS s H (va_Pc as (WPre D Y wc H.size)) as := pre_S0 hK hN (P_sub hP isC hp.1) (hD.sub isC hp.2 hp.1)
theorem pre_V {ws wc : va_W} {isC : List Nat} {As : List Value} {B : Nat → Prop} {b q0 ci : Nat} {q : vw_C} {fs : List Value} (hp : Pt ws wc isC) (hK : va_K D vwCl (tyS Y) s) (hN : NW s) (hP : va_P D vwCl ws H) (hD : va_D B ws) (hc : vwCl[ci]? = some q) (he : wc[q0]? = some (b, .inr (ci, fs))) : PreV s H q.1 b (va_Pc (.ref b :: As) (WPre D Y wc H.size)) As :=
  ⟨(pre_S hp hK hN hP hD).1, va_recv hK (P_sub hP isC hp.1) hc he, (pre_S hp hK hN hP hD).2⟩
theorem go_i {S : Type} {post : Int32 → S → Prop} {wd' : S → va_W} {ws wc : va_W} {isC : List Nat} {rest st0 : List Value} {a : Array Value} (hp : Pt ws wc isC) (hP : va_P D vwCl ws H) (hD : va_D A ws) (hS : va_S A s.heap H locs) (hA : ∀ q, s.heap.size ≤ q → A q) (hlen : ∀ u, isC.length = (wd' u).length)
    (hr : va_Run p l e R s m args below meth c H locs cells slots 0 0 (F0 m pc ls st0) rest (va_Qi post (WPost D Y wd' (va_A wc H.size)) (va_A wc H.size) a) (va_A wc H.size))
    (kk : ∀ (r : Int32) (u : S) (H1 : Heap) (locs1 : List Loc), post r u → va_P D vwCl (setL ws isC (wd' u)) H1 → va_D A (setL ws isC (wd' u)) → va_S A s.heap H1 locs1 → W p l e R s m args below meth c H1 locs1 cells slots Q (F0 m (pc + 3) ls (.int r :: rest))) : W p l e R s m args below meth c H locs cells slots Q (F0 m pc ls st0) := by
  have hF := va_free hD hS hA isC hp.1
  refine va_calli hr hS (fun q _ h => hF q h) hF (fun r u t H1 locs1 ht hvm hw hB hz hk hS1 => ?_)
  obtain ⟨hP1, hD1⟩ := after_call hp hP hD hS hA hlen hk ht hB
  exact kk r u H1 locs1 hw hP1 hD1 hS1
theorem go_l {S : Type} {post : Int64 → S → Prop} {wd' : S → va_W} {ws wc : va_W} {isC : List Nat} {rest st0 : List Value} {a : Array Value} (hp : Pt ws wc isC) (hP : va_P D vwCl ws H) (hD : va_D A ws) (hS : va_S A s.heap H locs) (hA : ∀ q, s.heap.size ≤ q → A q) (hlen : ∀ u, isC.length = (wd' u).length)
    (hr : va_Run p l e R s m args below meth c H locs cells slots 0 0 (F0 m pc ls st0) rest (va_Ql post (WPost D Y wd' (va_A wc H.size)) (va_A wc H.size) a) (va_A wc H.size))
    (kk : ∀ (r : Int64) (u : S) (H1 : Heap) (locs1 : List Loc), post r u → va_P D vwCl (setL ws isC (wd' u)) H1 → va_D A (setL ws isC (wd' u)) → va_S A s.heap H1 locs1 → W p l e R s m args below meth c H1 locs1 cells slots Q (F0 m (pc + 3) ls (.long r :: rest))) : W p l e R s m args below meth c H locs cells slots Q (F0 m pc ls st0) := by
  have hF := va_free hD hS hA isC hp.1
  refine va_calll hr hS (fun q _ h => hF q h) hF (fun r u t H1 locs1 ht hvm hw hB hz hk hS1 => ?_)
  obtain ⟨hP1, hD1⟩ := after_call hp hP hD hS hA hlen hk ht hB
  exact kk r u H1 locs1 hw hP1 hD1 hS1
theorem go_v {S : Type} {post : S → Prop} {wd' : S → va_W} {ws wc : va_W} {isC : List Nat} {rest st0 : List Value} {a : Array Value} (hp : Pt ws wc isC) (hP : va_P D vwCl ws H) (hD : va_D A ws) (hS : va_S A s.heap H locs) (hA : ∀ q, s.heap.size ≤ q → A q) (hlen : ∀ u, isC.length = (wd' u).length)
    (hr : va_Run p l e R s m args below meth c H locs cells slots 0 0 (F0 m pc ls st0) rest (va_Qv post (WPost D Y wd' (va_A wc H.size)) (va_A wc H.size) a) (va_A wc H.size))
    (kk : ∀ (u : S) (H1 : Heap) (locs1 : List Loc), post u → va_P D vwCl (setL ws isC (wd' u)) H1 → va_D A (setL ws isC (wd' u)) → va_S A s.heap H1 locs1 → W p l e R s m args below meth c H1 locs1 cells slots Q (F0 m (pc + 3) ls rest)) : W p l e R s m args below meth c H locs cells slots Q (F0 m pc ls st0) := by
  have hF := va_free hD hS hA isC hp.1
  refine va_callv hr hS (fun q _ h => hF q h) hF (fun u t H1 locs1 ht hvm hw hB hz hk hS1 => ?_)
  obtain ⟨hP1, hD1⟩ := after_call hp hP hD hS hA hlen hk ht hB
  exact kk u H1 locs1 hw hP1 hD1 hS1
theorem go_r {S : Type} {post : S → Prop} {wd' : S → va_W} {ws wc : va_W} {isC : List Nat} {rest st0 : List Value} {a : Array Value} {ad : Nat} (hp : Pt ws wc isC) (hP : va_P D vwCl ws H) (hD : va_D A ws) (hS : va_S A s.heap H locs) (hA : ∀ q, s.heap.size ≤ q → A q) (hlen : ∀ u, isC.length = (wd' u).length)
    (hr : va_Run p l e R s m args below meth c H locs cells slots 0 0 (F0 m pc ls st0) rest (va_Qr post (fun u a t => a = ad ∧ WPost D Y wd' (va_A wc H.size) u t) (va_A wc H.size) a) (va_A wc H.size))
    (kk : ∀ (u : S) (H1 : Heap) (locs1 : List Loc), post u → va_P D vwCl (setL ws isC (wd' u)) H1 → va_D A (setL ws isC (wd' u)) → va_S A s.heap H1 locs1 → W p l e R s m args below meth c H1 locs1 cells slots Q (F0 m (pc + 3) ls (.ref ad :: rest))) : W p l e R s m args below meth c H locs cells slots Q (F0 m pc ls st0) := by
  have hF := va_free hD hS hA isC hp.1
  refine va_callr hr hS (fun q _ h => hF q h) hF (fun u ra t H1 locs1 ht hvm hw hB hz hk hS1 => ?_)
  obtain ⟨rfl, hB⟩ := hB
  obtain ⟨hP1, hD1⟩ := after_call hp hP hD hS hA hlen hk ht hB
  exact kk u H1 locs1 hw hP1 hD1 hS1
end LIBW


/-- constructors -/
abbrev MtK (l : Launch) (y : MethodName) (ws : List Cond) (rm : Room) (q : Nat) (D : va_G) (Y : ClassId × ClassId × ClassId) (wd : va_W) (post : va_W → Prop) (mc ms sz : Nat) : Prop := Met l y ws rm (va_Pc [.ref q] (WPre D Y wd sz)) (va_Qv post (WPost D Y (fun w => w) (va_A wd sz)) (va_A wd sz)) mc ms (va_A wd sz)
abbrev QK (below : List Frame) (args : Array Value) (s : State) (D : va_G) (Y : ClassId × ClassId × ClassId) (A : Nat → Prop) (post : va_W → Prop) (mc ms : Nat) : State → Prop := MQ below (va_Qv post (WPost D Y (fun w => w) A) A) args s mc ms A
theorem ct_k {l : Launch} {y : MethodName} {ws ws' : List Cond} {rm : Room} {cc : ByteArray} {nL : Nat} {q : Nat} {D : va_G} {Y : ClassId × ClassId × ClassId} {wd : va_W} {post : va_W → Prop} {mc ms : Nat}
    (hy : plainName y.cls = true) (hin : y.name = "<init>") (hw : ws = Cond.code y cc nL none :: ws') (hlen : (lg_sl [Value.ref q]).length ≤ nL)
    (body : ∀ (p : Program) (e : Env) (s : State) (m : MethodId) (below : List Frame) (meth : Method) (c : Code) (A : Nat → Prop) (ls : Array Slot), Ctx p s m [Value.ref q].toArray meth c cc nL none ws y.cls → meth.name = "<init>" → va_K D vwCl (tyS Y) s → (∀ q, s.heap.size ≤ q → A q) → va_P D vwCl wd s.heap → va_D A wd → va_S A s.heap s.heap [] → lv_has ls nL (lv_args 0 [Value.ref q]) →
      W p l e rm s m [Value.ref q].toArray below meth c s.heap [] 0 0 (QK below [Value.ref q].toArray s D Y A post mc ms) (F0 m 0 ls [])) (sz : Nat) : MtK l y ws rm q D Y wd post mc ms sz := by
  refine Met.ofW (cc := cc) (maxL := nL) (ret := none) hy hw ?_
  intro p e s m args below meth c s₁ B hml hv
  obtain ⟨rfl, hsz, hP, hK, hD0, hN⟩ := hv
  subst hsz
  rw [lg_entry_eq]
  exact body p e s m below meth c _ _ ⟨⟨B.exec, B.bytes, hml, findClass_of_methodNamed B.named, atoms_spec (ws := ws) B.pre⟩, B.returns, B.notSynchronized, hN⟩ ((name_of_methodNamed B.named B.method).1.trans hin) hK (fun q h => Or.inr h) hP hD0.self va_S.rf (lv_entry [Value.ref q] hlen)
theorem kI {D : va_G} {Y : ClassId × ClassId × ClassId} {s : State} {cA : ClassId} (h : va_K D vwCl (tyS Y ++ [(cA, .int)]) s) : cA = Y.1 := Option.some.inj ((h.2 3 _ rfl).2.symm.trans (h.2 0 _ rfl).2)
theorem kZ {D : va_G} {Y : ClassId × ClassId × ClassId} {s : State} {cA : ClassId} (h : va_K D vwCl (tyS Y ++ [(cA, .boolean)]) s) : cA = Y.2.1 := Option.some.inj ((h.2 3 _ rfl).2.symm.trans (h.2 1 _ rfl).2)
theorem kO {D : va_G} {Y : ClassId × ClassId × ClassId} {s : State} {cA : ClassId} (h : va_K D vwCl (tyS Y ++ [(cA, .object "FoldRule$Strip")]) s) : cA = Y.2.2 := by
  obtain ⟨k1, c1, a1, a2, a3, a4⟩ := (h.2 3 _ rfl).2
  obtain ⟨k2, c2, b1, b2, b3, b4⟩ := (h.2 2 _ rfl).2
  exact Option.some.inj (a4.symm.trans b4)
theorem P_arrq {D : va_G} {cl : List vw_C} {ws : va_W} {H : Heap} (hP : va_P D cl ws H) (k : Nat) {a n : Nat} {cA : ClassId} {f g : Nat → Option Nat} (hk : ws[k]? = some (a, .inl (cA, n, .inr (.inr (.inr (.inr f)))))) (hfg : ∀ j, j < n → f j = g j) : va_P D cl (ws.set k (a, .inl (cA, n, .inr (.inr (.inr (.inr g)))))) H := by
  have hl := (List.getElem?_eq_some_iff.mp hk).1
  intro i q hq
  by_cases hi : i = k
  · subst hi
    rw [List.getElem?_set_self hl] at hq
    cases hq
    have h0 := hP i _ hk
    show H[a]? = some (vp_cell cA (n, .inr (.inr (.inr (.inr g)))))
    have h1 : H[a]? = some (vp_cell cA (n, .inr (.inr (.inr (.inr f))))) := h0
    rw [h1, vp_cell_q, vp_cell_q]
    congr 1
    unfold arrV
    congr 1
    apply Array.ext
    · simp
    · intro j h1 h2
      simp at h1 h2 ⊢
      rw [hfg j h1]
  · rw [List.getElem?_set_ne (Ne.symm hi)] at hq
    exact hP i q hq
section KTOR
variable {p : Program} {l : Launch} {e : Env} {R : Room} {s : State} {m : MethodId} {args : Array Value} {below : List Frame} {meth : Method} {c : Code} {H : Heap} {locs : List Loc} {cells slots : Nat} {Q : State → Prop} {D : va_G} {Y : ClassId × ClassId × ClassId} {A : Nat → Prop} {cc : ByteArray} {pc : Nat} {ls : Array Slot}
theorem ret_k {post : va_W → Prop} {w : va_W} {mc ms : Nat} (hx : p.tables.exec = Jvm.exec) (hb : c.code = cc) (hr : meth.sig.returnType = none) (hlocks : meth.locks = false) (hK : va_K D vwCl (tyS Y) s) (hP : va_P D vwCl w H) (hD : va_D A w) (hS : va_S A s.heap H locs) (h : post w) (hdg : decode cc pc = .ok (.return_, 1)) : W p l e R s m args below meth c H locs mc ms (QK below args s D Y A post mc ms) (F0 m pc ls []) :=
  W.vret hx hb hr (fun t ht hW => ⟨⟨w, rfl, h, by rw [ht]; exact hP, va_K.moved hW.alike hK, hD⟩, hS.F ht⟩) hS.2.2 hdg hlocks
theorem go_k {post : va_W → Prop} {ws wc wr : va_W} {isC isR : List Nat} {rest st0 : List Value} {a : Array Value} {mc ms : Nat} (hp : Pt ws wc isC) (hR : isR.map (fun i => ws[i]?) = wr.map some) (hn : va_nd isR = true) (hdis : ∀ i ∈ isR, i ∉ isC) (hP : va_P D vwCl ws H) (hD : va_D A ws) (hS : va_S A s.heap H locs) (hA : ∀ q, s.heap.size ≤ q → A q)
    (hr : va_Run p l e R s m args below meth c H locs cells slots mc ms (F0 m pc ls st0) rest (va_Qv post (WPost D Y (fun w => w) (va_A wc H.size)) (va_A wc H.size) a) (va_A wc H.size))
    (kk : ∀ (w1 : va_W) (H1 : Heap) (locs1 : List Loc), post w1 → va_P D vwCl (wr ++ w1) H1 → va_D A (wr ++ w1) → va_S A s.heap H1 locs1 → W p l e R s m args below meth c H1 locs1 (cells + mc) (slots + ms) Q (F0 m (pc + 3) ls rest)) : W p l e R s m args below meth c H locs cells slots Q (F0 m pc ls st0) := by
  have hF := va_free hD hS hA isC hp.1
  refine va_callv hr hS (fun q _ h => hF q h) hF (fun w1 t H1 locs1 ht hvm hw hB hz hk hS1 => ?_)
  obtain ⟨hP1, hK1, hD1⟩ := hB
  rw [ht] at hP1
  obtain ⟨g1, g2⟩ := va_join hP hD isC isR hp.1 hR hn hdis hk hF hP1 hD1
  exact kk w1 H1 locs1 hw g1 g2 hS1
end KTOR

def itr1 {A1 : Type} (B : (A1 → Prop) → A1 → Prop) : Nat → A1 → Prop
  | 0 => fun _ => False
  | n + 1 => B (itr1 B n)
def itr2 {A1 : Type} {A2 : Type} (B : (A1 → A2 → Prop) → A1 → A2 → Prop) : Nat → A1 → A2 → Prop
  | 0 => fun _ _ => False
  | n + 1 => B (itr2 B n)
def itr3 {A1 : Type} {A2 : Type} {A3 : Type} (B : (A1 → A2 → A3 → Prop) → A1 → A2 → A3 → Prop) : Nat → A1 → A2 → A3 → Prop
  | 0 => fun _ _ _ => False
  | n + 1 => B (itr3 B n)
def itr4 {A1 : Type} {A2 : Type} {A3 : Type} {A4 : Type} (B : (A1 → A2 → A3 → A4 → Prop) → A1 → A2 → A3 → A4 → Prop) : Nat → A1 → A2 → A3 → A4 → Prop
  | 0 => fun _ _ _ _ => False
  | n + 1 => B (itr4 B n)
def itr5 {A1 : Type} {A2 : Type} {A3 : Type} {A4 : Type} {A5 : Type} (B : (A1 → A2 → A3 → A4 → A5 → Prop) → A1 → A2 → A3 → A4 → A5 → Prop) : Nat → A1 → A2 → A3 → A4 → A5 → Prop
  | 0 => fun _ _ _ _ _ => False
  | n + 1 => B (itr5 B n)
def itr6 {A1 : Type} {A2 : Type} {A3 : Type} {A4 : Type} {A5 : Type} {A6 : Type} (B : (A1 → A2 → A3 → A4 → A5 → A6 → Prop) → A1 → A2 → A3 → A4 → A5 → A6 → Prop) : Nat → A1 → A2 → A3 → A4 → A5 → A6 → Prop
  | 0 => fun _ _ _ _ _ _ => False
  | n + 1 => B (itr6 B n)
def itr7 {A1 : Type} {A2 : Type} {A3 : Type} {A4 : Type} {A5 : Type} {A6 : Type} {A7 : Type} (B : (A1 → A2 → A3 → A4 → A5 → A6 → A7 → Prop) → A1 → A2 → A3 → A4 → A5 → A6 → A7 → Prop) : Nat → A1 → A2 → A3 → A4 → A5 → A6 → A7 → Prop
  | 0 => fun _ _ _ _ _ _ _ => False
  | n + 1 => B (itr7 B n)
def itr8 {A1 : Type} {A2 : Type} {A3 : Type} {A4 : Type} {A5 : Type} {A6 : Type} {A7 : Type} {A8 : Type} (B : (A1 → A2 → A3 → A4 → A5 → A6 → A7 → A8 → Prop) → A1 → A2 → A3 → A4 → A5 → A6 → A7 → A8 → Prop) : Nat → A1 → A2 → A3 → A4 → A5 → A6 → A7 → A8 → Prop
  | 0 => fun _ _ _ _ _ _ _ _ => False
  | n + 1 => B (itr8 B n)
def itr9 {A1 : Type} {A2 : Type} {A3 : Type} {A4 : Type} {A5 : Type} {A6 : Type} {A7 : Type} {A8 : Type} {A9 : Type} (B : (A1 → A2 → A3 → A4 → A5 → A6 → A7 → A8 → A9 → Prop) → A1 → A2 → A3 → A4 → A5 → A6 → A7 → A8 → A9 → Prop) : Nat → A1 → A2 → A3 → A4 → A5 → A6 → A7 → A8 → A9 → Prop
  | 0 => fun _ _ _ _ _ _ _ _ _ => False
  | n + 1 => B (itr9 B n)
def itr10 {A1 : Type} {A2 : Type} {A3 : Type} {A4 : Type} {A5 : Type} {A6 : Type} {A7 : Type} {A8 : Type} {A9 : Type} {A10 : Type} (B : (A1 → A2 → A3 → A4 → A5 → A6 → A7 → A8 → A9 → A10 → Prop) → A1 → A2 → A3 → A4 → A5 → A6 → A7 → A8 → A9 → A10 → Prop) : Nat → A1 → A2 → A3 → A4 → A5 → A6 → A7 → A8 → A9 → A10 → Prop
  | 0 => fun _ _ _ _ _ _ _ _ _ _ => False
  | n + 1 => B (itr10 B n)
