/-! own base: loops as least closed predicates, contracts in one form, calls and returns in one row -/
def Lp {α : Type} (F : (α → Prop) → α → Prop) (a : α) : Prop := ∀ X : α → Prop, (∀ (b : α) (Y : α → Prop), (∀ c, Y c → X c) → F Y b → X b) → X a
theorem Lp.rule {α : Type} {F : (α → Prop) → α → Prop} (I : α → Prop) (mu : α → Nat) (hs : ∀ a, I a → F (fun b => I b ∧ mu b < mu a) a) {a : α} (h : I a) : Lp F a := by
  intro X hX
  have key : ∀ n a, mu a < n → I a → X a := by
    intro n
    induction n with
    | zero => intro a h; exact absurd h (Nat.not_lt_zero _)
    | succ n ih => intro a hn ha; exact hX a _ (fun c hc => ih c (by omega) hc.1) (hs a ha)
  exact key _ a (Nat.lt_succ_self _) h
def isB (v : Int32) : Prop := v = 0 ∨ v = 1
theorem isB.nar {v : Int32} (h : isB v) : narrow .boolean (.int v) = .int v := by rcases h with rfl | rfl <;> rfl
theorem isB.fit {v : Int32} (h : isB v) : fits .boolean (.int v) = true := by rcases h with rfl | rfl <;> rfl
theorem isB_0 : isB 0 := Or.inl rfl
theorem isB_1 : isB 1 := Or.inr rfl
abbrev Cy : Type := ClassId × ClassId × ClassId
abbrev ty0 (cy : Cy) : List (ClassId × FieldType) := [(cy.1, .int), (cy.2.1, .boolean), (cy.2.2, .byte)]
abbrev nwF : List (String × Nat × String × String × String) := [(RX8, 53, "HaltingDecider$Machine", "count", "I"), (RX0, 44, "HaltingDecider$Machine", "count", "I"), (RX3, 82, "HaltingDecider$Tape", "words", "[I"), (RX3, 78, "HaltingDecider$Configuration", "tape", "LHaltingDecider$Tape;"), (RX8, 131, "HaltingDecider$Configuration", "tape", "LHaltingDecider$Tape;"), (RX3, 75, "HaltingDecider$Configuration", "state", "I"), (RX8, 125, "HaltingDecider$Configuration", "state", "I"), (RX3, 68, "HaltingDecider$Configuration", "head", "I"), (RX8, 128, "HaltingDecider$Configuration", "head", "I"), (RX8, 114, "HaltingDecider$Configuration", "time", "I"), (RX3, 58, "HaltingDecider$Configuration", "lowest", "I"), (RX8, 147, "HaltingDecider$Configuration", "lowest", "I"), (RX3, 61, "HaltingDecider$Configuration", "highest", "I"), (RX8, 144, "HaltingDecider$Configuration", "highest", "I"), (RX8, 94, "HaltingDecider$TypedText", "length", "I"), (RX8, 161, "HaltingDecider$History", "last", "I"), (RX8, 157, "HaltingDecider$History", "hasEnded", "Z"), (RX8, 168, "HaltingDecider$History", "earlier", "I"), (RX8, 171, "HaltingDecider$History", "later", "I"), (RX0, 63, "HaltingDecider$Level", "stateRow", "[I"), (RX0, 67, "HaltingDecider$Level", "headRow", "[I"), (RX0, 73, "HaltingDecider$Level", "knownRow", "[I"), (RX0, 76, "HaltingDecider$Level", "onesRow", "[I"), (RX0, 25, "HaltingDecider$Level", "count", "I"), (RX0, 29, "HaltingDecider$Level", "isOverfull", "Z")]
abbrev nwM : List (String × Nat × MethodName) := []
def NW (U : State) : Prop := (∀ q ∈ nwF, va_Nw (.fieldLinkNest q.1 q.2.1 q.2.2.1 q.2.2.2.1 q.2.2.2.2 RX8) U) ∧ ∀ q ∈ nwM, va_Nw (.methodLinkNest q.1 q.2.1 q.2.2 RX8) U
theorem NW.warm {s U : State} (hW : s.WarmedH U.vm) (h : NW s) : NW U := ⟨fun q hq => va_Nw.warmF hW (h.1 q hq), fun q hq => va_Nw.warmM hW (h.2 q hq)⟩
theorem NW.same {u U : State} (e : u.vm = U.vm) (h : NW u) : NW U := ⟨fun q hq => va_Nw.same rfl e (h.1 q hq), fun q hq => va_Nw.same rfl e (h.2 q hq)⟩
theorem nf_X8_53 {s : State} {args : Array Value} (h : NW s) : (Cond.fieldLinkNest RX8 53 "HaltingDecider$Machine" "count" "I" RX8).before args s = true := va_Nw.use rfl (h.1 (RX8, 53, "HaltingDecider$Machine", "count", "I") (List.mem_of_getElem? (i := 0) rfl))
theorem nf_X0_44 {s : State} {args : Array Value} (h : NW s) : (Cond.fieldLinkNest RX0 44 "HaltingDecider$Machine" "count" "I" RX8).before args s = true := va_Nw.use rfl (h.1 (RX0, 44, "HaltingDecider$Machine", "count", "I") (List.mem_of_getElem? (i := 1) rfl))
theorem nf_X3_82 {s : State} {args : Array Value} (h : NW s) : (Cond.fieldLinkNest RX3 82 "HaltingDecider$Tape" "words" "[I" RX8).before args s = true := va_Nw.use rfl (h.1 (RX3, 82, "HaltingDecider$Tape", "words", "[I") (List.mem_of_getElem? (i := 2) rfl))
theorem nf_X3_78 {s : State} {args : Array Value} (h : NW s) : (Cond.fieldLinkNest RX3 78 "HaltingDecider$Configuration" "tape" "LHaltingDecider$Tape;" RX8).before args s = true := va_Nw.use rfl (h.1 (RX3, 78, "HaltingDecider$Configuration", "tape", "LHaltingDecider$Tape;") (List.mem_of_getElem? (i := 3) rfl))
theorem nf_X8_131 {s : State} {args : Array Value} (h : NW s) : (Cond.fieldLinkNest RX8 131 "HaltingDecider$Configuration" "tape" "LHaltingDecider$Tape;" RX8).before args s = true := va_Nw.use rfl (h.1 (RX8, 131, "HaltingDecider$Configuration", "tape", "LHaltingDecider$Tape;") (List.mem_of_getElem? (i := 4) rfl))
theorem nf_X3_75 {s : State} {args : Array Value} (h : NW s) : (Cond.fieldLinkNest RX3 75 "HaltingDecider$Configuration" "state" "I" RX8).before args s = true := va_Nw.use rfl (h.1 (RX3, 75, "HaltingDecider$Configuration", "state", "I") (List.mem_of_getElem? (i := 5) rfl))
theorem nf_X8_125 {s : State} {args : Array Value} (h : NW s) : (Cond.fieldLinkNest RX8 125 "HaltingDecider$Configuration" "state" "I" RX8).before args s = true := va_Nw.use rfl (h.1 (RX8, 125, "HaltingDecider$Configuration", "state", "I") (List.mem_of_getElem? (i := 6) rfl))
theorem nf_X3_68 {s : State} {args : Array Value} (h : NW s) : (Cond.fieldLinkNest RX3 68 "HaltingDecider$Configuration" "head" "I" RX8).before args s = true := va_Nw.use rfl (h.1 (RX3, 68, "HaltingDecider$Configuration", "head", "I") (List.mem_of_getElem? (i := 7) rfl))
theorem nf_X8_128 {s : State} {args : Array Value} (h : NW s) : (Cond.fieldLinkNest RX8 128 "HaltingDecider$Configuration" "head" "I" RX8).before args s = true := va_Nw.use rfl (h.1 (RX8, 128, "HaltingDecider$Configuration", "head", "I") (List.mem_of_getElem? (i := 8) rfl))
theorem nf_X8_114 {s : State} {args : Array Value} (h : NW s) : (Cond.fieldLinkNest RX8 114 "HaltingDecider$Configuration" "time" "I" RX8).before args s = true := va_Nw.use rfl (h.1 (RX8, 114, "HaltingDecider$Configuration", "time", "I") (List.mem_of_getElem? (i := 9) rfl))
theorem nf_X3_58 {s : State} {args : Array Value} (h : NW s) : (Cond.fieldLinkNest RX3 58 "HaltingDecider$Configuration" "lowest" "I" RX8).before args s = true := va_Nw.use rfl (h.1 (RX3, 58, "HaltingDecider$Configuration", "lowest", "I") (List.mem_of_getElem? (i := 10) rfl))
theorem nf_X8_147 {s : State} {args : Array Value} (h : NW s) : (Cond.fieldLinkNest RX8 147 "HaltingDecider$Configuration" "lowest" "I" RX8).before args s = true := va_Nw.use rfl (h.1 (RX8, 147, "HaltingDecider$Configuration", "lowest", "I") (List.mem_of_getElem? (i := 11) rfl))
theorem nf_X3_61 {s : State} {args : Array Value} (h : NW s) : (Cond.fieldLinkNest RX3 61 "HaltingDecider$Configuration" "highest" "I" RX8).before args s = true := va_Nw.use rfl (h.1 (RX3, 61, "HaltingDecider$Configuration", "highest", "I") (List.mem_of_getElem? (i := 12) rfl))
theorem nf_X8_144 {s : State} {args : Array Value} (h : NW s) : (Cond.fieldLinkNest RX8 144 "HaltingDecider$Configuration" "highest" "I" RX8).before args s = true := va_Nw.use rfl (h.1 (RX8, 144, "HaltingDecider$Configuration", "highest", "I") (List.mem_of_getElem? (i := 13) rfl))
theorem nf_X8_94 {s : State} {args : Array Value} (h : NW s) : (Cond.fieldLinkNest RX8 94 "HaltingDecider$TypedText" "length" "I" RX8).before args s = true := va_Nw.use rfl (h.1 (RX8, 94, "HaltingDecider$TypedText", "length", "I") (List.mem_of_getElem? (i := 14) rfl))
theorem nf_X8_161 {s : State} {args : Array Value} (h : NW s) : (Cond.fieldLinkNest RX8 161 "HaltingDecider$History" "last" "I" RX8).before args s = true := va_Nw.use rfl (h.1 (RX8, 161, "HaltingDecider$History", "last", "I") (List.mem_of_getElem? (i := 15) rfl))
theorem nf_X8_157 {s : State} {args : Array Value} (h : NW s) : (Cond.fieldLinkNest RX8 157 "HaltingDecider$History" "hasEnded" "Z" RX8).before args s = true := va_Nw.use rfl (h.1 (RX8, 157, "HaltingDecider$History", "hasEnded", "Z") (List.mem_of_getElem? (i := 16) rfl))
theorem nf_X8_168 {s : State} {args : Array Value} (h : NW s) : (Cond.fieldLinkNest RX8 168 "HaltingDecider$History" "earlier" "I" RX8).before args s = true := va_Nw.use rfl (h.1 (RX8, 168, "HaltingDecider$History", "earlier", "I") (List.mem_of_getElem? (i := 17) rfl))
theorem nf_X8_171 {s : State} {args : Array Value} (h : NW s) : (Cond.fieldLinkNest RX8 171 "HaltingDecider$History" "later" "I" RX8).before args s = true := va_Nw.use rfl (h.1 (RX8, 171, "HaltingDecider$History", "later", "I") (List.mem_of_getElem? (i := 18) rfl))
theorem nf_X0_63 {s : State} {args : Array Value} (h : NW s) : (Cond.fieldLinkNest RX0 63 "HaltingDecider$Level" "stateRow" "[I" RX8).before args s = true := va_Nw.use rfl (h.1 (RX0, 63, "HaltingDecider$Level", "stateRow", "[I") (List.mem_of_getElem? (i := 19) rfl))
theorem nf_X0_67 {s : State} {args : Array Value} (h : NW s) : (Cond.fieldLinkNest RX0 67 "HaltingDecider$Level" "headRow" "[I" RX8).before args s = true := va_Nw.use rfl (h.1 (RX0, 67, "HaltingDecider$Level", "headRow", "[I") (List.mem_of_getElem? (i := 20) rfl))
theorem nf_X0_73 {s : State} {args : Array Value} (h : NW s) : (Cond.fieldLinkNest RX0 73 "HaltingDecider$Level" "knownRow" "[I" RX8).before args s = true := va_Nw.use rfl (h.1 (RX0, 73, "HaltingDecider$Level", "knownRow", "[I") (List.mem_of_getElem? (i := 21) rfl))
theorem nf_X0_76 {s : State} {args : Array Value} (h : NW s) : (Cond.fieldLinkNest RX0 76 "HaltingDecider$Level" "onesRow" "[I" RX8).before args s = true := va_Nw.use rfl (h.1 (RX0, 76, "HaltingDecider$Level", "onesRow", "[I") (List.mem_of_getElem? (i := 22) rfl))
theorem nf_X0_25 {s : State} {args : Array Value} (h : NW s) : (Cond.fieldLinkNest RX0 25 "HaltingDecider$Level" "count" "I" RX8).before args s = true := va_Nw.use rfl (h.1 (RX0, 25, "HaltingDecider$Level", "count", "I") (List.mem_of_getElem? (i := 23) rfl))
theorem nf_X0_29 {s : State} {args : Array Value} (h : NW s) : (Cond.fieldLinkNest RX0 29 "HaltingDecider$Level" "isOverfull" "Z" RX8).before args s = true := va_Nw.use rfl (h.1 (RX0, 29, "HaltingDecider$Level", "isOverfull", "Z") (List.mem_of_getElem? (i := 24) rfl))
def Wd (D : va_G) (cy : Cy) (ws : va_W) (sz : Nat) (U : State) : Prop := U.heap.size = sz ∧ va_P D vwCl ws U.heap ∧ va_K D vwCl (ty0 cy) U ∧ NW U ∧ va_D (fun _ => True) ws
theorem Wd.blind {av : List Value} {D : va_G} {cy : Cy} {ws : va_W} {sz : Nat} : FrameBlind (va_Pc av (Wd D cy ws sz)) := fun a U g mk q => by
  obtain ⟨q0, q1, q2, q3, q4, q5⟩ := q
  exact ⟨q0, q1, q2, va_K.moved (u := U) (U := U.calling g mk a) (Vm.Alike.refl U.vm) q3, NW.same rfl q4, q5⟩
def Ci (l : Launch) (y : MethodName) (wds : List Cond) (rm : Room) (D : va_G) (cy : Cy) (ws : va_W) (av : List Value) {S : Type} (post : Int32 → S → Prop) (B : S → va_W) : Prop := ∀ sz : Nat, Met l y wds rm (va_Pc av (Wd D cy ws sz)) (va_Qi post (fun u t => va_P D vwCl (B u) t.heap ∧ va_D (va_A ws sz) (B u)) (va_A ws sz)) 0 0 (va_A ws sz)
def Cv (l : Launch) (y : MethodName) (wds : List Cond) (rm : Room) (mc ms : Nat) (D : va_G) (cy : Cy) (ws : va_W) (av : List Value) {S : Type} (post : S → Prop) (B : S → va_W) : Prop := ∀ sz : Nat, Met l y wds rm (va_Pc av (Wd D cy ws sz)) (va_Qv post (fun u t => va_P D vwCl (B u) t.heap ∧ va_D (va_A ws sz) (B u)) (va_A ws sz)) mc ms (va_A ws sz)
theorem P_subm {D : va_G} {cl : List vw_C} {ws ws' : va_W} {H : Heap} (h : va_P D cl ws H) (is : List Nat) (hs : is.map (fun i => ws[i]?) = ws'.map some) : va_P D cl ws' H := by
  intro k q hk
  have h1 : (is.map (fun i => ws[i]?))[k]? = some (some q) := by rw [hs, List.getElem?_map, hk]; rfl
  rw [List.getElem?_map] at h1
  cases hi : is[k]? with
  | none => rw [hi] at h1; cases h1
  | some i => rw [hi] at h1; exact h i q (Option.some.inj h1)
section OWNCALL
variable {p : Program} {l : Launch} {e : Env} {R : Room} {s : State} {m : MethodId} {args : Array Value} {below : List Frame} {meth : Method} {c : Code} {H : Heap} {locs : List Loc} {cells slots : Nat} {Q : State → Prop}
variable {pc : Nat} {ls : Array Slot} {rest st0 : List Value} {A : Nat → Prop} {H0 : Heap} {D : va_G} {cy : Cy} {ws wc wr : va_W} {S : Type} {y : MethodName} {wsy wsy' : List Cond} {rm : Room} {bytes cc : ByteArray} {maxL nL n index mc ms : Nat} {ret : Option FieldType} {Ts : List Cond} {own C host : String} {b : Addr} {As : List Value} {ci : Nat} {q : vw_C} {fs : List Value}
theorem call_iV {post : Int32 → S → Prop} {B : S → va_W} (S0 : CallFix p m c cc nL s args Ts own) (hM : Ci l y wsy rm D cy wc (.ref b :: As) post B) (cw : CallW R s args own C index y bytes maxL ret wsy rm 0 0 n)
    (hP : va_P D vwCl ws H) (hK : va_K D vwCl (ty0 cy) s) (hN : NW s) (hD : va_D A ws) (hS : va_S A H0 H locs) (hA : ∀ q, H0.size ≤ q → A q) (isC isR : List Nat) (hC : isC.map (fun i => ws[i]?) = wc.map some) (hR : isR.map (fun i => ws[i]?) = wr.map some) (hnC : va_nd isC = true) (hnR : va_nd isR = true) (hdis : ∀ i ∈ isR, i ∉ isC)
    (hc : vwCl[ci]? = some q) (he : wc[0]? = some (b, .inr (ci, fs))) (hq : q.1 = C) (hn : As.length = n) (hsize : ls.size = nL) (hst : st0 = As.reverse ++ .ref b :: rest) (hW : (rest.map fun v => v.category).sum ≤ 8) (hdg : decode cc pc = .ok (.invokevirtual index, 3)) (hf : cells ≤ R.cells ∧ slots ≤ R.slots)
    (kk : ∀ (r : Int32) (u : S) (H1 : Heap) (locs1 : List Loc), post r u → va_P D vwCl (wr ++ B u) H1 → va_D A (wr ++ B u) → va_S A H0 H1 locs1 → W p l e R s m args below meth c H1 locs1 cells slots Q (F0 m (pc + 3) ls (.int r :: rest))) : W p l e R s m args below meth c H locs cells slots Q (F0 m pc ls st0) := by
  have hPc := P_subm hP isC hC
  have hDc := hD.sub isC hnC hC
  have hFc := va_free hD hS hA isC hC
  subst hq
  refine va_calli (va_runV (rest := rest) S0 (hM H.size) cw ⟨Wd.blind, va_recv hK hPc hc he, fun U hU hW => ⟨rfl, by rw [hU], by rw [hU]; exact hPc, va_K.moved hW.alike hK, hN.warm hW, hDc.weaken (fun _ _ _ _ => trivial)⟩⟩ rfl hn hsize hst (lv_room hW) hdg hf) hS (fun q _ h => hFc q h) hFc (fun r u t H1 locs1 ht hvm hw hB hz1 hk1 hS1 => ?_)
  obtain ⟨hP1, hD1⟩ := hB
  rw [ht] at hP1
  obtain ⟨hP2, hD2⟩ := va_join (wr := wr) (w1 := B u) hP hD isC isR hC hR hnR hdis hk1 hFc hP1 hD1
  exact kk r u H1 locs1 hw hP2 hD2 hS1
theorem call_vV {post : S → Prop} {B : S → va_W} (S0 : CallFix p m c cc nL s args Ts own) (hM : Cv l y wsy rm mc ms D cy wc (.ref b :: As) post B) (cw : CallW R s args own C index y bytes maxL ret wsy rm mc ms n)
    (hP : va_P D vwCl ws H) (hK : va_K D vwCl (ty0 cy) s) (hN : NW s) (hD : va_D A ws) (hS : va_S A H0 H locs) (hA : ∀ q, H0.size ≤ q → A q) (isC isR : List Nat) (hC : isC.map (fun i => ws[i]?) = wc.map some) (hR : isR.map (fun i => ws[i]?) = wr.map some) (hnC : va_nd isC = true) (hnR : va_nd isR = true) (hdis : ∀ i ∈ isR, i ∉ isC)
    (hc : vwCl[ci]? = some q) (he : wc[0]? = some (b, .inr (ci, fs))) (hq : q.1 = C) (hn : As.length = n) (hsize : ls.size = nL) (hst : st0 = As.reverse ++ .ref b :: rest) (hW : (rest.map fun v => v.category).sum ≤ 8) (hdg : decode cc pc = .ok (.invokevirtual index, 3)) (hf : cells + mc ≤ R.cells ∧ slots + ms ≤ R.slots)
    (kk : ∀ (u : S) (H1 : Heap) (locs1 : List Loc), post u → va_P D vwCl (wr ++ B u) H1 → va_D A (wr ++ B u) → va_S A H0 H1 locs1 → W p l e R s m args below meth c H1 locs1 (cells + mc) (slots + ms) Q (F0 m (pc + 3) ls rest)) : W p l e R s m args below meth c H locs cells slots Q (F0 m pc ls st0) := by
  have hPc := P_subm hP isC hC
  have hDc := hD.sub isC hnC hC
  have hFc := va_free hD hS hA isC hC
  subst hq
  refine va_callv (va_runV (rest := rest) S0 (hM H.size) cw ⟨Wd.blind, va_recv hK hPc hc he, fun U hU hW => ⟨rfl, by rw [hU], by rw [hU]; exact hPc, va_K.moved hW.alike hK, hN.warm hW, hDc.weaken (fun _ _ _ _ => trivial)⟩⟩ rfl hn hsize hst (lv_room hW) hdg hf) hS (fun q _ h => hFc q h) hFc (fun u t H1 locs1 ht hvm hw hB hz1 hk1 hS1 => ?_)
  obtain ⟨hP1, hD1⟩ := hB
  rw [ht] at hP1
  obtain ⟨hP2, hD2⟩ := va_join (wr := wr) (w1 := B u) hP hD isC isR hC hR hnR hdis hk1 hFc hP1 hD1
  exact kk u H1 locs1 hw hP2 hD2 hS1
theorem call_vI {post : S → Prop} {B : S → va_W} (S0 : CallFix p m c cc nL s args Ts own) (hM : Cv l y wsy rm mc ms D cy wc (.ref b :: As) post B) (cw : CallB R s args own index y bytes maxL none wsy rm mc ms n ∧ y.name = "<init>" ∧ (Cond.instanceMethod y).before args s = true)
    (hP : va_P D vwCl ws H) (hK : va_K D vwCl (ty0 cy) s) (hN : NW s) (hD : va_D A ws) (hS : va_S A H0 H locs) (hA : ∀ q, H0.size ≤ q → A q) (isC isR : List Nat) (hC : isC.map (fun i => ws[i]?) = wc.map some) (hR : isR.map (fun i => ws[i]?) = wr.map some) (hnC : va_nd isC = true) (hnR : va_nd isR = true) (hdis : ∀ i ∈ isR, i ∉ isC)
    (hn : As.length = n) (hsize : ls.size = nL) (hst : st0 = As.reverse ++ .ref b :: rest) (hW : (rest.map fun v => v.category).sum ≤ 8) (hdg : decode cc pc = .ok (.invokespecial index, 3)) (hf : cells + mc ≤ R.cells ∧ slots + ms ≤ R.slots)
    (kk : ∀ (u : S) (H1 : Heap) (locs1 : List Loc), post u → va_P D vwCl (wr ++ B u) H1 → va_D A (wr ++ B u) → va_S A H0 H1 locs1 → W p l e R s m args below meth c H1 locs1 (cells + mc) (slots + ms) Q (F0 m (pc + 3) ls rest)) : W p l e R s m args below meth c H locs cells slots Q (F0 m pc ls st0) := by
  have hPc := P_subm hP isC hC
  have hDc := hD.sub isC hnC hC
  have hFc := va_free hD hS hA isC hC
  refine va_callv (va_runI (rest := rest) S0 (hM H.size) cw ⟨Wd.blind, fun U hU hW => ⟨rfl, by rw [hU], by rw [hU]; exact hPc, va_K.moved hW.alike hK, hN.warm hW, hDc.weaken (fun _ _ _ _ => trivial)⟩⟩ rfl hn hsize hst (lv_room hW) hdg hf) hS (fun q _ h => hFc q h) hFc (fun u t H1 locs1 ht hvm hw hB hz1 hk1 hS1 => ?_)
  obtain ⟨hP1, hD1⟩ := hB
  rw [ht] at hP1
  obtain ⟨hP2, hD2⟩ := va_join (wr := wr) (w1 := B u) hP hD isC isR hC hR hnR hdis hk1 hFc hP1 hD1
  exact kk u H1 locs1 hw hP2 hD2 hS1
theorem call_iS {post : Int32 → S → Prop} {B : S → va_W} (S0 : CallFix p m c cc nL s args Ts own) (hM : Ci l y wsy rm D cy wc As post B) (cw : CallB R s args own index y bytes maxL ret wsy rm 0 0 n ∧ (Cond.static y).before args s = true)
    (hP : va_P D vwCl ws H) (hK : va_K D vwCl (ty0 cy) s) (hN : NW s) (hD : va_D A ws) (hS : va_S A H0 H locs) (hA : ∀ q, H0.size ≤ q → A q) (isC isR : List Nat) (hC : isC.map (fun i => ws[i]?) = wc.map some) (hR : isR.map (fun i => ws[i]?) = wr.map some) (hnC : va_nd isC = true) (hnR : va_nd isR = true) (hdis : ∀ i ∈ isR, i ∉ isC)
    (hn : As.length = n) (hsize : ls.size = nL) (hst : st0 = As.reverse ++ rest) (hW : (rest.map fun v => v.category).sum ≤ 8) (hdg : decode cc pc = .ok (.invokestatic index, 3)) (hf : cells ≤ R.cells ∧ slots ≤ R.slots)
    (kk : ∀ (r : Int32) (u : S) (H1 : Heap) (locs1 : List Loc), post r u → va_P D vwCl (wr ++ B u) H1 → va_D A (wr ++ B u) → va_S A H0 H1 locs1 → W p l e R s m args below meth c H1 locs1 cells slots Q (F0 m (pc + 3) ls (.int r :: rest))) : W p l e R s m args below meth c H locs cells slots Q (F0 m pc ls st0) := by
  have hPc := P_subm hP isC hC
  have hDc := hD.sub isC hnC hC
  have hFc := va_free hD hS hA isC hC
  refine va_calli (va_runS (rest := rest) S0 (hM H.size) cw ⟨Wd.blind, fun U hU hW => ⟨rfl, by rw [hU], by rw [hU]; exact hPc, va_K.moved hW.alike hK, hN.warm hW, hDc.weaken (fun _ _ _ _ => trivial)⟩⟩ rfl hn hsize hst (lv_room hW) hdg hf) hS (fun q _ h => hFc q h) hFc (fun r u t H1 locs1 ht hvm hw hB hz1 hk1 hS1 => ?_)
  obtain ⟨hP1, hD1⟩ := hB
  rw [ht] at hP1
  obtain ⟨hP2, hD2⟩ := va_join (wr := wr) (w1 := B u) hP hD isC isR hC hR hnR hdis hk1 hFc hP1 hD1
  exact kk r u H1 locs1 hw hP2 hD2 hS1
theorem call_vS {post : S → Prop} {B : S → va_W} (S0 : CallFix p m c cc nL s args Ts own) (hM : Cv l y wsy rm mc ms D cy wc As post B) (cw : CallB R s args own index y bytes maxL ret wsy rm mc ms n ∧ (Cond.static y).before args s = true)
    (hP : va_P D vwCl ws H) (hK : va_K D vwCl (ty0 cy) s) (hN : NW s) (hD : va_D A ws) (hS : va_S A H0 H locs) (hA : ∀ q, H0.size ≤ q → A q) (isC isR : List Nat) (hC : isC.map (fun i => ws[i]?) = wc.map some) (hR : isR.map (fun i => ws[i]?) = wr.map some) (hnC : va_nd isC = true) (hnR : va_nd isR = true) (hdis : ∀ i ∈ isR, i ∉ isC)
    (hn : As.length = n) (hsize : ls.size = nL) (hst : st0 = As.reverse ++ rest) (hW : (rest.map fun v => v.category).sum ≤ 8) (hdg : decode cc pc = .ok (.invokestatic index, 3)) (hf : cells + mc ≤ R.cells ∧ slots + ms ≤ R.slots)
    (kk : ∀ (u : S) (H1 : Heap) (locs1 : List Loc), post u → va_P D vwCl (wr ++ B u) H1 → va_D A (wr ++ B u) → va_S A H0 H1 locs1 → W p l e R s m args below meth c H1 locs1 (cells + mc) (slots + ms) Q (F0 m (pc + 3) ls rest)) : W p l e R s m args below meth c H locs cells slots Q (F0 m pc ls st0) := by
  have hPc := P_subm hP isC hC
  have hDc := hD.sub isC hnC hC
  have hFc := va_free hD hS hA isC hC
  refine va_callv (va_runS (rest := rest) S0 (hM H.size) cw ⟨Wd.blind, fun U hU hW => ⟨rfl, by rw [hU], by rw [hU]; exact hPc, va_K.moved hW.alike hK, hN.warm hW, hDc.weaken (fun _ _ _ _ => trivial)⟩⟩ rfl hn hsize hst (lv_room hW) hdg hf) hS (fun q _ h => hFc q h) hFc (fun u t H1 locs1 ht hvm hw hB hz1 hk1 hS1 => ?_)
  obtain ⟨hP1, hD1⟩ := hB
  rw [ht] at hP1
  obtain ⟨hP2, hD2⟩ := va_join (wr := wr) (w1 := B u) hP hD isC isR hC hR hnR hdis hk1 hFc hP1 hD1
  exact kk u H1 locs1 hw hP2 hD2 hS1
theorem call_iSN {post : Int32 → S → Prop} {B : S → va_W} (S0 : CallFix p m c cc nL s args Ts own) (hM : Ci l y wsy rm D cy wc As post B) (cw : va_CN R s args own index y host bytes maxL ret wsy rm 0 0 n ∧ (Cond.static y).before args s = true ∧ True)
    (hP : va_P D vwCl ws H) (hK : va_K D vwCl (ty0 cy) s) (hN : NW s) (hD : va_D A ws) (hS : va_S A H0 H locs) (hA : ∀ q, H0.size ≤ q → A q) (isC isR : List Nat) (hC : isC.map (fun i => ws[i]?) = wc.map some) (hR : isR.map (fun i => ws[i]?) = wr.map some) (hnC : va_nd isC = true) (hnR : va_nd isR = true) (hdis : ∀ i ∈ isR, i ∉ isC)
    (hn : As.length = n) (hsize : ls.size = nL) (hst : st0 = As.reverse ++ rest) (hW : (rest.map fun v => v.category).sum ≤ 8) (hdg : decode cc pc = .ok (.invokestatic index, 3)) (hf : cells ≤ R.cells ∧ slots ≤ R.slots)
    (kk : ∀ (r : Int32) (u : S) (H1 : Heap) (locs1 : List Loc), post r u → va_P D vwCl (wr ++ B u) H1 → va_D A (wr ++ B u) → va_S A H0 H1 locs1 → W p l e R s m args below meth c H1 locs1 cells slots Q (F0 m (pc + 3) ls (.int r :: rest))) : W p l e R s m args below meth c H locs cells slots Q (F0 m pc ls st0) := by
  have hPc := P_subm hP isC hC
  have hDc := hD.sub isC hnC hC
  have hFc := va_free hD hS hA isC hC
  refine va_calli (va_runSN (rest := rest) S0 (hM H.size) cw ⟨Wd.blind, fun U hU hW => ⟨rfl, by rw [hU], by rw [hU]; exact hPc, va_K.moved hW.alike hK, hN.warm hW, hDc.weaken (fun _ _ _ _ => trivial)⟩⟩ rfl hn hsize hst (lv_room hW) hdg hf) hS (fun q _ h => hFc q h) hFc (fun r u t H1 locs1 ht hvm hw hB hz1 hk1 hS1 => ?_)
  obtain ⟨hP1, hD1⟩ := hB
  rw [ht] at hP1
  obtain ⟨hP2, hD2⟩ := va_join (wr := wr) (w1 := B u) hP hD isC isR hC hR hnR hdis hk1 hFc hP1 hD1
  exact kk r u H1 locs1 hw hP2 hD2 hS1
/-- all that a method's body stands on -/
def At (p : Program) (s : State) (m : MethodId) (args : Array Value) (meth : Method) (c : Code) (y : MethodName) (cc : ByteArray) (maxL : Nat) (ret : Option FieldType) (wds : List Cond) (D : va_G) (cy : Cy) (A : Nat → Prop) : Prop :=
  p.tables.exec = Jvm.exec ∧ c.code = cc ∧ meth.sig.returnType = ret ∧ (∀ w ∈ wds, w.before args s = true) ∧ s.vm.findClass y.cls = some m.cls ∧ meth.locks = false ∧ c.maxLocals = maxL ∧ meth.name = y.name ∧ va_K D vwCl (ty0 cy) s ∧ NW s ∧ (∀ q, s.heap.size ≤ q → A q)
theorem of_i {av : List Value} {post : Int32 → S → Prop} {B : S → va_W} (hy : plainName y.cls = true) (hw : wsy = Cond.code y cc maxL (some .int) :: wsy') (hav : (lg_sl av).length ≤ maxL)
    (body : ∀ (p : Program) (e : Env) (s : State) (m : MethodId) (args : Array Value) (below : List Frame) (meth : Method) (c : Code) (A : Nat → Prop) (ls : Array Slot) (QQ : State → Prop), At p s m args meth c y cc maxL (some .int) wsy D cy A →
      (∀ (pc : Nat) (H : Heap) (locs : List Loc) (ls : Array Slot) (v : Int32) (u : S), decode cc pc = .ok (.ireturn, 1) → post v u → va_P D vwCl (B u) H → va_D A (B u) → va_S A s.heap H locs → W p l e rm s m args below meth c H locs 0 0 QQ (F0 m pc ls [.int v])) →
      va_P D vwCl ws s.heap → va_D A ws → va_S A s.heap s.heap [] → lv_has ls maxL (lv_args 0 av) → W p l e rm s m args below meth c s.heap [] 0 0 QQ (F0 m 0 ls [])) : Ci l y wsy rm D cy ws av post B := by
  intro sz
  refine Met.ofW (cc := cc) (maxL := maxL) (ret := some .int) hy hw ?_
  intro p e s m args below meth c s₁ B0 hml hv
  obtain ⟨rfl, hsz, hP, hK, hN, hD0⟩ := hv
  subst hsz
  have hD := hD0.self (sz := s.heap.size)
  have hA : ∀ q : Nat, s.heap.size ≤ q → va_A ws s.heap.size q := fun q h => Or.inr h
  have hl := lv_entry av (n := maxL) hav
  rw [lg_entry_eq]
  exact body p e s m _ below meth c _ _ _ ⟨B0.exec, B0.bytes, B0.returns, atoms_spec (ws := wsy) B0.pre, findClass_of_methodNamed B0.named, B0.notSynchronized, hml, (name_of_methodNamed B0.named B0.method).1, hK, hN, hA⟩
    (fun pc H locs ls v u hdg h hP hD hS => W.iret B0.exec B0.bytes B0.returns (fun t ht hW => ⟨⟨v, u, rfl, h, by rw [ht]; exact hP, hD⟩, hS.F ht⟩) hS.2.2 hdg B0.notSynchronized) hP hD va_S.rf hl
theorem of_z {av : List Value} {post : Int32 → S → Prop} {B : S → va_W} (hy : plainName y.cls = true) (hw : wsy = Cond.code y cc maxL (some .boolean) :: wsy') (hav : (lg_sl av).length ≤ maxL)
    (body : ∀ (p : Program) (e : Env) (s : State) (m : MethodId) (args : Array Value) (below : List Frame) (meth : Method) (c : Code) (A : Nat → Prop) (ls : Array Slot) (QQ : State → Prop), At p s m args meth c y cc maxL (some .boolean) wsy D cy A →
      (∀ (pc : Nat) (H : Heap) (locs : List Loc) (ls : Array Slot) (v : Int32) (u : S), decode cc pc = .ok (.ireturn, 1) → isB v → post v u → va_P D vwCl (B u) H → va_D A (B u) → va_S A s.heap H locs → W p l e rm s m args below meth c H locs 0 0 QQ (F0 m pc ls [.int v])) →
      va_P D vwCl ws s.heap → va_D A ws → va_S A s.heap s.heap [] → lv_has ls maxL (lv_args 0 av) → W p l e rm s m args below meth c s.heap [] 0 0 QQ (F0 m 0 ls [])) : Ci l y wsy rm D cy ws av post B := by
  intro sz
  refine Met.ofW (cc := cc) (maxL := maxL) (ret := some .boolean) hy hw ?_
  intro p e s m args below meth c s₁ B0 hml hv
  obtain ⟨rfl, hsz, hP, hK, hN, hD0⟩ := hv
  subst hsz
  have hD := hD0.self (sz := s.heap.size)
  have hA : ∀ q : Nat, s.heap.size ≤ q → va_A ws s.heap.size q := fun q h => Or.inr h
  have hl := lv_entry av (n := maxL) hav
  rw [lg_entry_eq]
  exact body p e s m _ below meth c _ _ _ ⟨B0.exec, B0.bytes, B0.returns, atoms_spec (ws := wsy) B0.pre, findClass_of_methodNamed B0.named, B0.notSynchronized, hml, (name_of_methodNamed B0.named B0.method).1, hK, hN, hA⟩
    (fun pc H locs ls v u hdg hv h hP hD hS => W.zret B0.exec B0.bytes B0.returns hv.nar (fun t ht hW => ⟨⟨v, u, rfl, h, by rw [ht]; exact hP, hD⟩, hS.F ht⟩) hS.2.2 hdg B0.notSynchronized) hP hD va_S.rf hl
theorem of_v {av : List Value} {post : S → Prop} {B : S → va_W} (hy : plainName y.cls = true) (hw : wsy = Cond.code y cc maxL none :: wsy') (hav : (lg_sl av).length ≤ maxL)
    (body : ∀ (p : Program) (e : Env) (s : State) (m : MethodId) (args : Array Value) (below : List Frame) (meth : Method) (c : Code) (A : Nat → Prop) (ls : Array Slot) (QQ : State → Prop), At p s m args meth c y cc maxL none wsy D cy A →
      (∀ (pc : Nat) (H : Heap) (locs : List Loc) (ls : Array Slot) (u : S), decode cc pc = .ok (.return_, 1) → post u → va_P D vwCl (B u) H → va_D A (B u) → va_S A s.heap H locs → W p l e rm s m args below meth c H locs mc ms QQ (F0 m pc ls [])) →
      va_P D vwCl ws s.heap → va_D A ws → va_S A s.heap s.heap [] → lv_has ls maxL (lv_args 0 av) → W p l e rm s m args below meth c s.heap [] 0 0 QQ (F0 m 0 ls [])) : Cv l y wsy rm mc ms D cy ws av post B := by
  intro sz
  refine Met.ofW (cc := cc) (maxL := maxL) (ret := none) hy hw ?_
  intro p e s m args below meth c s₁ B0 hml hv
  obtain ⟨rfl, hsz, hP, hK, hN, hD0⟩ := hv
  subst hsz
  have hD := hD0.self (sz := s.heap.size)
  have hA : ∀ q : Nat, s.heap.size ≤ q → va_A ws s.heap.size q := fun q h => Or.inr h
  have hl := lv_entry av (n := maxL) hav
  rw [lg_entry_eq]
  exact body p e s m _ below meth c _ _ _ ⟨B0.exec, B0.bytes, B0.returns, atoms_spec (ws := wsy) B0.pre, findClass_of_methodNamed B0.named, B0.notSynchronized, hml, (name_of_methodNamed B0.named B0.method).1, hK, hN, hA⟩
    (fun pc H locs ls u hdg h hP hD hS => W.vret B0.exec B0.bytes B0.returns (fun t ht hW => ⟨⟨u, rfl, h, by rw [ht]; exact hP, hD⟩, hS.F ht⟩) hS.2.2 hdg B0.notSynchronized) hP hD va_S.rf hl
end OWNCALL
def ushr (x y : Int32) : Int32 := (x.toUInt32 >>> (y.toUInt32 &&& Int32.toUInt32 31)).toInt32
