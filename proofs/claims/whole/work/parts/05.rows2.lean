/-! ===== further rows ===== -/
theorem vp_in_lt {i : Int32} {N : Nat} (h : vp_in i N) : i.toNatClampNeg < N := Nat.not_le.mp fun q => h (Or.inr q)
theorem nar01 {v : Int32} (h : v = 0 ∨ v = 1) : narrow .boolean (.int v) = .int v := by rcases h with rfl | rfl <;> decide
theorem i32_ne {x k : Int32} {z : Int} (hk : k.toInt = z) (h : ¬ x = k) : x.toInt ≠ z := fun e => h (Int32.toInt_inj.mp (e.trans hk.symm))
theorem i32_eq {x k : Int32} {z : Int} (hk : k.toInt = z) (h : x = k) : x.toInt = z := by rw [h]; exact hk
theorem xthing {w : wT} {o : Nat} {r : Nat → Int32} (hg : 12 ≤ o ∧ o < 18) : ∃ (ci : Nat) (fs : List Value) (C : String) (T : u_T) (N : Nat), xcf w o r = .inr (ci, fs) ∧ vwCl[ci]? = some (C, T, N) := by
  rcases (show o = 12 ∨ o = 13 ∨ o = 14 ∨ o = 15 ∨ o = 16 ∨ o = 17 by omega) with rfl | rfl | rfl | rfl | rfl | rfl
  · exact ⟨_, _, _, _, _, xc_t0 (by decide) (by decide), rfl⟩
  · exact ⟨_, _, _, _, _, xc_t1 (by decide) (by decide), rfl⟩
  · exact ⟨_, _, _, _, _, xc_t2 (by decide) (by decide), rfl⟩
  · exact ⟨_, _, _, _, _, xc_t3 (by decide) (by decide), rfl⟩
  · exact ⟨_, _, _, _, _, xc_t4 (by decide) (by decide), rfl⟩
  · exact ⟨_, _, _, _, _, xc_t5 (by decide) (by decide), rfl⟩
section YROWS2
variable {p : Program} {l : Launch} {e : Env} {R : Room} {s : State} {m : MethodId} {args : Array Value} {below : List Frame} {meth : Method} {c : Code}
variable {w : wT} {cf : cT} {n : Nat} {A : Nat → Prop} {Q : State → Prop} {nL : Nat} {σ : Hp} {pc : Nat} {lv : List (Nat × Value)} {st rest : List Value} {cc : ByteArray} {own : String} {r : Option FieldType}
theorem y_ialdc (E : YE p m meth c cc nL s args own r w n A) {o N j : Nat} {i : Int32} (ho : o < n) (hcell : cf w o (σ o) = .inl (w.2.1 1, N, .inl (σ o))) (hj : i.toNatClampNeg = j ∧ ¬ i < 0) (hlt : j < N) (hd : decode cc pc = .ok (.iaload, 1)) (kk : YY p l e R s m args below meth c w cf n A Q nL σ (pc + 1) lv (.int (σ o j) :: rest)) : YY p l e R s m args below meth c w cf n A Q nL σ pc lv (.int i :: .ref (w.1 o) :: rest) := by
  obtain ⟨rfl, h0⟩ := hj
  exact y_iald E ho hcell (fun h => h.elim h0 (fun q => absurd hlt (Nat.not_lt.mpr q))) hd kk
theorem y_baldc (E : YE p m meth c cc nL s args own r w n A) {o N j : Nat} {i : Int32} (ho : o < n) (hcell : cf w o (σ o) = .inl (w.2.1 0, N, .inl (σ o))) (hj : i.toNatClampNeg = j ∧ ¬ i < 0) (hlt : j < N) (hd : decode cc pc = .ok (.baload, 1)) (kk : YY p l e R s m args below meth c w cf n A Q nL σ (pc + 1) lv (.int (σ o j) :: rest)) : YY p l e R s m args below meth c w cf n A Q nL σ pc lv (.int i :: .ref (w.1 o) :: rest) := by
  obtain ⟨rfl, h0⟩ := hj
  exact y_bald E ho hcell (fun h => h.elim h0 (fun q => absurd hlt (Nat.not_lt.mpr q))) hd kk
theorem y_iastc (E : YE p m meth c cc nL s args own r w n A) {o N j : Nat} {i x : Int32} (ho : o < n) (hcell : ∀ f : Nat → Int32, cf w o f = .inl (w.2.1 1, N, .inl f)) (hj : i.toNatClampNeg = j ∧ ¬ i < 0) (hlt : j < N) (hd : decode cc pc = .ok (.iastore, 1)) (kk : YY p l e R s m args below meth c w cf n A Q nL (hup σ o j x) (pc + 1) lv rest) : YY p l e R s m args below meth c w cf n A Q nL σ pc lv (.int x :: .int i :: .ref (w.1 o) :: rest) := by
  obtain ⟨rfl, h0⟩ := hj
  exact y_iast E ho hcell (fun h => h.elim h0 (fun q => absurd hlt (Nat.not_lt.mpr q))) hd kk
theorem y_table1 (E : YE p m meth c cc nL s args own r w n A) {dflt lo hi : Int} {offs : Array Int} {len : Nat} {x : Int32} {z off : Int} {j tgt : Nat} (hd : decode cc pc = .ok (.tableswitch dflt lo hi offs, len)) (hx : x.toInt = z) (hj : z = lo + (j : Int) ∧ z ≤ hi) (ho : offs[j]? = some off) (ht : (pc : Int) + off = (tgt : Int)) (k : YY p l e R s m args below meth c w cf n A Q nL σ tgt lv rest) : YY p l e R s m args below meth c w cf n A Q nL σ pc lv (.int x :: rest) :=
  y_tableIn E hd (by omega) (by omega) (by rw [show (x.toInt - lo).toNat = j by omega]; exact ho) ht k
theorem y_table0 (E : YE p m meth c cc nL s args own r w n A) {dflt lo hi : Int} {offs : Array Int} {len : Nat} {x : Int32} {tgt : Nat} (hd : decode cc pc = .ok (.tableswitch dflt lo hi offs, len)) (ht : (pc : Int) + dflt = (tgt : Int)) (h : ∀ j : Nat, j < offs.size → offs[j]? = some dflt ∨ x.toInt ≠ lo + (j : Int)) (hsz : hi - lo < (offs.size : Int)) (k : YY p l e R s m args below meth c w cf n A Q nL σ tgt lv rest) : YY p l e R s m args below meth c w cf n A Q nL σ pc lv (.int x :: rest) := by
  by_cases h1 : x.toInt < lo ∨ hi < x.toInt
  · exact y_tableOut E hd h1 ht k
  · have hj : (x.toInt - lo).toNat < offs.size := by omega
    rcases h _ hj with h2 | h2
    · exact y_tableIn E hd (fun q => h1 (Or.inl q)) (fun q => h1 (Or.inr q)) h2 ht k
    · exact absurd (by omega) h2
theorem y_ldcS (E : YE p m meth c cc nL s args RX4 r w n A) {index : Nat} (i : Nat) (hi : i < 12) (hidx : scIdx.getD i 0 = index) (hd : decode cc pc = .ok (.ldc index, 2)) (kk : YY p l e R s m args below meth c w cf n A Q nL σ (pc + 2) lv (.ref (w.2.2.2.1 i) :: rest)) : YY p l e R s m args below meth c w cf n A Q nL σ pc lv rest := fun H locs ls hP hS hl =>
  va_ldcS (own := RX4) (tx := scTxt.getD i "") E.1.1 E.1.2.1 E.1.2.2.2.1 (by rw [← hidx]; exact E.2.1.2.2.2.1 i hi) hd (kk H locs ls hP hS hl)
theorem y_callSI {T : State} {locs : List Loc} {cells slots : Nat} (X : Stand p l e R s m args below meth c T locs cells slots) (hexec : p.tables.exec = Jvm.exec) {own owner : String} {index : Nat} {x y : MethodName} {bytes : ByteArray} {maxL : Nat} {ret : Option FieldType}
    (hown : s.vm.findClass own = some m.cls) (hlink : (Cond.methodLink own index x).before args s = true) (hsame : (Cond.sameMethod x.cls owner x.name x.desc).before args s = true) (hsup : (Cond.superclass own x.cls).before args s = true) (hsup2 : (Cond.superclass x.cls owner).before args s = true) (hyx : y = ⟨owner, x.name, x.desc⟩)
    (hinst : (Cond.instanceMethod y).before args s = true) (hcode : (Cond.code y bytes maxL ret).before args s = true) (hno : x.name ≠ "<init>")
    {W : Nat} {Pre : Pt → Array Value → Prop} {Post : Pt → Array Value → Option Value → Pt → Prop} (hK : Back l R p e below s args y 3 W Pre Post)
    {b : Addr} {cellB : Cell} {kB : Class} (hcell : T.heap[b]? = some cellB) (hobj : cellB.vm.isStatics = false) (hkB : s.vm.classes[cellB.cls]? = some kB)
    {g : JFrame} (hg : g.method = m) (hsize : g.locals.size = c.maxLocals) {argsL rest : List Value} (hlen : ∀ sig, parseMethodDescriptor y.desc = some sig → argsL.length = sig.parameters.length)
    (hstack : g.stack = argsL.reverse ++ .ref b :: rest) (hW : 2 * g.monitorRoom + (rest.map fun v => v.category).sum ≤ W) (hdg : decode c.code g.pc = .ok (.invokespecial index, 3))
    (hpre : ∀ vm₁, s.WarmedH vm₁ → Pre ⟨T.setVm vm₁, locs, cells, slots⟩ (Value.ref b :: argsL).toArray) :
    ∃ (v : Option Value) (vm₁ : Vm) (B : Pt), s.WarmedH vm₁ ∧ Stand p l e R s m args below meth c B.U B.locs B.cells B.slots ∧ Post ⟨T.setVm vm₁, locs, cells, slots⟩ (Value.ref b :: argsL).toArray v B ∧
      ∀ target, Steps p.tables e below (B.U.setTop { g with pc := g.pc + 3, stack := v.toList ++ rest }) target → Steps p.tables e below (T.setTop g) target := by
  obtain ⟨mk, methM, hnamed, hmethM, hstM, habM⟩ := Cond.instanceMethod_spec hinst
  obtain ⟨methM', cM, hmethM', -, -, -, -, -, -, hsigM⟩ := Cond.code_spec hnamed hcode
  cases hmethM.symm.trans hmethM'
  obtain ⟨ps, dk, kp, hps, hdk, hkp, hsuper, -, -, hnid⟩ := Cond.superclass_spec hown hsup
  obtain ⟨ps2, dk2, kp2, hps2, hdk2, hkp2, hsuper2, -, -, -⟩ := Cond.superclass_spec hps hsup2
  have hn : s.methodNamed? ⟨owner, x.name, x.desc⟩ = some mk := by rw [← hyx]; exact hnamed
  have hpm : ps2 = mk.cls := Option.some.inj (hps2.symm.trans (findClass_of_methodNamed hn))
  have hsz : 0 < s.vm.classes.size := Nat.lt_of_le_of_lt (Nat.zero_le _) (Array.getElem?_eq_some_iff.mp hdk2).1
  have hsub : s.vm.isSubclass ps mk.cls = true := by
    obtain ⟨z, hz⟩ : ∃ z, s.vm.classes.size = z + 1 := ⟨s.vm.classes.size - 1, by omega⟩
    rw [← hpm]
    simp [Vm.isSubclass, Vm.isSubclassAux, hz, hdk2, hsuper2]
  obtain ⟨vm₁, X₁, hstep₁⟩ := X.invokespecialUp hexec hown hlink hsame hn hmethM hstM habM hno hdk hnid hps hsuper hsub (a := b) (cell := cellB) hcell
    (fun z h => by rw [h] at hobj; cases hobj) hkB (g := g) hg (argsL := argsL) (rest := rest) (hlen _ hsigM) hstack hdg
  obtain ⟨v, B, X', hpost, hsteps⟩ := hK m meth c ⟨T.setVm vm₁, locs, cells, slots⟩ { g with stack := rest } (.invokespecial index) mk (Value.ref b :: argsL).toArray X₁ hg hsize hdg hW (X₁.named hnamed) (hpre vm₁ X₁.warmed)
  exact ⟨v, vm₁, B, X₁.warmed, X', hpost, fun target h => hstep₁ _ (by rw [doInvoke_state]; exact hsteps.trans h)⟩
variable {y x0 : MethodName} {b : ByteArray} {nL' d k o ci N index : Nat} {r' : Option FieldType} {As : List Value} {C host owner : String} {T : u_T} {fs : List Value} {Qc : (Nat → Prop) → Array Value → State → Outcome → State → Prop} {a : Array Value}
theorem y_runSI (E : YE p m meth c cc nL s args own r w n A) (hM : yMet l w cf n y b nL' r' d (.ref (w.1 o) :: As) σ Qc) (h1 : .methodLink own index x0 ∈ wG) (h2 : .sameMethod x0.cls owner x0.name x0.desc ∈ wG) (h3 : .superclass own x0.cls ∈ wG) (h4 : .superclass x0.cls owner ∈ wG) (h5 : .instanceMethod y ∈ wG) (h6 : .initialized y.cls ∈ wG) (h7 : .code y b nL' r' ∈ wG) (hyx : y = ⟨owner, x0.name, x0.desc⟩) (hno : x0.name ≠ "<init>") (hlen : (parseMethodDescriptor y.desc).map (fun d => d.parameters.length) = some k) (hR : (yRm d).frames + 1 ≤ R.frames ∧ 8 + (nL' + 11) + (yRm d).locals ≤ R.locals) (ho : o < n) (hcell : cf w o (σ o) = .inr (ci, fs)) (hc : vwCl[ci]? = some (C, T, N)) (hk : As.length = k) (hst : st = As.reverse ++ .ref (w.1 o) :: rest) (hr : (rest.map fun v => v.category).sum ≤ 8) (hd : decode cc pc = .ok (.invokespecial index, 3)) : YR p l e R s m args below meth c w cf n A nL σ pc lv st rest (Value.ref (w.1 o) :: As).toArray Qc := fun H locs ls hP hS hl => by
  have hts := E.1.2.2.2.2
  have hK : Back l R p e below s args y 3 8 (PreOf R 0 0 (va_Pc (.ref (w.1 o) :: As) (yPre w cf n σ H.size))) (PostOf (Qc (YA w n H.size)) 0 0 (YA w n H.size)) := back_of (bytes := b) (maxL := nL') (ret := r') (hM H.size) yPre.blind rfl rfl hR.1 hR.2 (pay_in hts (gI h7)) List.mem_cons_self (fun a' U hW => word_at hW (Or.inl (by first | rfl | simp [Cond.onTables, Cond.keeps, Cond.steady])) (hts _ h6))
  obtain ⟨cellB, hcB, hoB, hclB⟩ := va_recv E.2.1.1 hP (ci := ci) (q0 := o) hc (by rw [yw_get ho, hcell])
  obtain ⟨hfc, kB, hkB, -⟩ := (E.2.1.1.1 ci _ hc).2
  have hce : cellB.cls = w.2.2.1.1 ci := (Option.some.inj (hfc.symm.trans hclB)).symm
  rw [← hce] at hkB
  intro T hT X
  obtain ⟨v, vm₁, ⟨U', l2, c2, s2⟩, hW₁, X', ⟨g', mk, t, L, e1, e2, hq, g1, hL, g2, g3⟩, hst2⟩ := y_callSI X E.1.1 (bytes := b) (maxL := nL') (ret := r') E.1.2.2.2.1 (hts _ h1) (hts _ h2) (hts _ h3) (hts _ h4) hyx (hts _ h5) (hts _ h7) hno hK (by rw [hT]; exact hcB) hoB hkB (g := F0 m pc ls st) rfl (hl.1.trans E.1.2.2.1.symm) (argsL := As) (rest := rest) (fun sig h => by
    rw [h] at hlen
    exact hk.trans (Option.some.inj hlen).symm) hst (lv_room hr) (by rw [E.1.2.1]; exact hd) (fun vm₁ hW₁ => ⟨Nat.zero_le _, Nat.zero_le _, y_pre E hP hS rfl (T.setVm vm₁) hT hW₁⟩)
  dsimp only [Pt.U, Pt.locs, Pt.cells, Pt.slots] at X' e1 e2 g1 g2 g3 hst2
  subst g1; subst g2; subst g3
  exact ⟨v, (T.setVm vm₁).calling g' mk _, t, U', L, hT, X', hL, e1, e2, hq, hst2⟩
end YROWS2
theorem y_startF {l : Launch} {w : wT} {cf : cT} {n : Nat} {y : MethodName} {b : ByteArray} {nL : Nat} {r : Option FieldType} {d : Nat} {av : List Value} {σ : Hp} {Qc : (Nat → Prop) → Array Value → State → Outcome → State → Prop} {own : String} {lv0 : List (Nat × Value)} (hy : plainFor y = true) (hown : y.cls = own) (hw : yOk w n) (hlen : (lg_sl av).length ≤ nL) (hlv : lv_args 0 av = lv0)
    (body : ∀ p e s m below meth c A, YE p m meth c b nL s av.toArray own r w n A → YY p l e (yRm d) s m av.toArray below meth c w cf n A (MQ below (Qc A) av.toArray s 0 0 A) nL σ 0 lv0 []) : yMet l w cf n y b nL r d av σ Qc := by
  intro sz
  refine va_MetF (cc := b) (maxL := nL) (ret := r) hy rfl ?_
  intro p e s m args below meth c s₁ B hml hv
  obtain ⟨rfl, hsz, hP, hG⟩ := hv
  subst hsz
  have hts := atoms_spec (ws := .code y b nL r :: wG) B.pre
  have hown2 : s.vm.findClass own = some m.cls := by rw [← hown]; exact findClass_of_methodNamed B.named
  have h := body p e s m below meth c (YA w n s.heap.size) ⟨⟨B.exec, B.bytes, hml, hown2, fun w hw => hts w (List.mem_cons_of_mem _ hw)⟩, hG, hw, fun k hk => Or.inl ⟨k, hk, rfl⟩, fun q hq => Or.inr hq, B.returns, B.notSynchronized⟩
  have hl := lv_entry av (n := nL) hlen
  rw [hlv] at hl
  rw [lg_entry_eq]
  exact h s.heap [] _ hP va_S.rf hl
