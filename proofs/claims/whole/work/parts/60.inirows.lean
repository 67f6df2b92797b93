/-! ===== rows for constructors: a world that grows, as a list of cells ===== -/
def YI (p : Program) (l : Launch) (e : Env) (R : Room) (s : State) (m : MethodId) (args : Array Value) (below : List Frame) (meth : Method) (c : Code) (w : wT) (A : Nat → Prop) (Q : State → Prop) (nL : Nat) (cs ss : Nat) (ws : va_W) (pc : Nat) (lv : List (Nat × Value)) (st : List Value) : Prop :=
  ∀ (H : Heap) (locs : List Loc) (ls : Array Slot), va_P w.2.2.1 vwCl ws H → va_D A ws → va_S A s.heap H locs → lv_has ls nL lv → W p l e R s m args below meth c H locs cs ss Q (F0 m pc ls st)
def yRmI (d mc ms : Nat) : Room := { frames := d, cells := mc, slots := ms, locals := 40 * d }
def yMetI {S : Type} (l : Launch) (w : wT) (y : MethodName) (b : ByteArray) (nL d mc ms : Nat) (av : List Value) (ws0 : va_W) (ws1 : S → va_W) (K : S → Prop) : Prop :=
  ∀ sz : Nat, Met l y (.code y b nL none :: wG) (yRmI d mc ms) (va_Pc av (fun U => U.heap.size = sz ∧ va_P w.2.2.1 vwCl ws0 U.heap ∧ va_D (fun _ => True) ws0 ∧ yG w (va_A ws0 sz) U)) (va_Qv (S := S) K (fun u t => va_P w.2.2.1 vwCl (ws1 u) t.heap ∧ va_D (va_A ws0 sz) (ws1 u)) (va_A ws0 sz)) mc ms (va_A ws0 sz)
section YIROWS
variable {p : Program} {l : Launch} {e : Env} {R : Room} {s : State} {m : MethodId} {args : Array Value} {below : List Frame} {meth : Method} {c : Code}
variable {w : wT} {A : Nat → Prop} {Q : State → Prop} {nL : Nat} {cs ss : Nat} {ws ws' : va_W} {pc : Nat} {lv : List (Nat × Value)} {st rest : List Value} {cc : ByteArray} {own : String} {r : Option FieldType}
theorem yi_iconst (E : YE p m meth c cc nL s args own r w 0 A) {i : Int} {v : Int32} (hd : decode cc pc = .ok (.iconst i, 1)) (hv : Int32.ofInt i = v) (k : YI p l e R s m args below meth c w A Q nL cs ss ws (pc + 1) lv (.int v :: rest)) : YI p l e R s m args below meth c w A Q nL cs ss ws pc lv (rest) := fun H locs ls hP hD hS hl => lv_iconst E.1.1 E.1.2.1 hd hv (k H locs ls hP hD hS hl)
theorem yi_bipush (E : YE p m meth c cc nL s args own r w 0 A) {i : Int} {v : Int32} (hd : decode cc pc = .ok (.bipush i, 2)) (hv : (Int8.ofInt i).toInt32 = v) (k : YI p l e R s m args below meth c w A Q nL cs ss ws (pc + 2) lv (.int v :: rest)) : YI p l e R s m args below meth c w A Q nL cs ss ws pc lv (rest) := fun H locs ls hP hD hS hl => lv_bipush E.1.1 E.1.2.1 hd hv (k H locs ls hP hD hS hl)
theorem yi_sipush (E : YE p m meth c cc nL s args own r w 0 A) {i : Int} {v : Int32} (hd : decode cc pc = .ok (.sipush i, 3)) (hv : (Int16.ofInt i).toInt32 = v) (k : YI p l e R s m args below meth c w A Q nL cs ss ws (pc + 3) lv (.int v :: rest)) : YI p l e R s m args below meth c w A Q nL cs ss ws pc lv (rest) := fun H locs ls hP hD hS hl => lv_sipush E.1.1 E.1.2.1 hd hv (k H locs ls hP hD hS hl)
theorem yi_iload_n (E : YE p m meth c cc nL s args own r w 0 A) {kk : Fin 4} {x : Int32} (hd : decode cc pc = .ok (.iload_n kk, 1)) (j : Nat) (hj : lv[j]? = some ((kk : Nat), .int x)) (k : YI p l e R s m args below meth c w A Q nL cs ss ws (pc + 1) lv (.int x :: rest)) : YI p l e R s m args below meth c w A Q nL cs ss ws pc lv (rest) := fun H locs ls hP hD hS hl => lv_iload_n E.1.1 E.1.2.1 hd rfl (lv_at hl j hj) (k H locs ls hP hD hS hl)
theorem yi_aload_n (E : YE p m meth c cc nL s args own r w 0 A) {kk : Fin 4} {x : Nat} (hd : decode cc pc = .ok (.aload_n kk, 1)) (j : Nat) (hj : lv[j]? = some ((kk : Nat), .ref x)) (k : YI p l e R s m args below meth c w A Q nL cs ss ws (pc + 1) lv (.ref x :: rest)) : YI p l e R s m args below meth c w A Q nL cs ss ws pc lv (rest) := fun H locs ls hP hD hS hl => lv_aload_n E.1.1 E.1.2.1 hd rfl (lv_at hl j hj) (k H locs ls hP hD hS hl)
theorem yi_dup (E : YE p m meth c cc nL s args own r w 0 A) {va : Value} (hd : decode cc pc = .ok (.dup, 1)) (hva : va.category = 1) (k : YI p l e R s m args below meth c w A Q nL cs ss ws (pc + 1) lv (va :: va :: rest)) : YI p l e R s m args below meth c w A Q nL cs ss ws pc lv (va :: rest) := fun H locs ls hP hD hS hl => lv_dup E.1.1 E.1.2.1 hd hva (k H locs ls hP hD hS hl)
theorem yi_pop (E : YE p m meth c cc nL s args own r w 0 A) {va : Value} (hd : decode cc pc = .ok (.pop, 1)) (hva : va.category = 1) (k : YI p l e R s m args below meth c w A Q nL cs ss ws (pc + 1) lv (rest)) : YI p l e R s m args below meth c w A Q nL cs ss ws pc lv (va :: rest) := fun H locs ls hP hD hS hl => lv_pop E.1.1 E.1.2.1 hd hva (k H locs ls hP hD hS hl)
theorem yi_goto (E : YE p m meth c cc nL s args own r w 0 A) {off : Int} {tgt : Nat} (hd : decode cc pc = .ok (.goto off, 3)) (ht : (pc : Int) + off = (tgt : Int)) (k : YI p l e R s m args below meth c w A Q nL cs ss ws tgt lv st) : YI p l e R s m args below meth c w A Q nL cs ss ws pc lv st := fun H locs ls hP hD hS hl => lv_goto E.1.1 E.1.2.1 hd ht (k H locs ls hP hD hS hl)
theorem yi_icmp_ge (E : YE p m meth c cc nL s args own r w 0 A) {x y : Int32} {off : Int} {tgt : Nat} (hd : decode cc pc = .ok (.if_icmp .ge off, 3)) (ht : (pc : Int) + off = (tgt : Int)) (kt : y ≤ x → YI p l e R s m args below meth c w A Q nL cs ss ws tgt lv rest) (kf : ¬ y ≤ x → YI p l e R s m args below meth c w A Q nL cs ss ws (pc + 3) lv rest) : YI p l e R s m args below meth c w A Q nL cs ss ws pc lv (.int y :: .int x :: rest) := fun H locs ls hP hD hS hl => lv_icmp_ge E.1.1 E.1.2.1 hd ht (fun h => kt h H locs ls hP hD hS hl) (fun h => kf h H locs ls hP hD hS hl)
theorem yi_istore_n (E : YE p m meth c cc nL s args own r w 0 A) {kk : Fin 4} {x : Int32} {lv' : List (Nat × Value)} (hd : decode cc pc = .ok (.istore_n kk, 1)) (hn : (kk : Nat) < nL) (hl' : ((kk : Nat), Value.int x) :: lv.filter (fun q => !(q.1 == (kk : Nat)) && !(q.1 + 1 == (kk : Nat) && q.2.category == 2)) = lv') (k : YI p l e R s m args below meth c w A Q nL cs ss ws (pc + 1) lv' rest) : YI p l e R s m args below meth c w A Q nL cs ss ws pc lv (.int x :: rest) := fun H locs _ hP hD hS hl => lv_istore_n E.1.1 E.1.2.1 hd rfl hl hn hl' (fun ls hl2 => k H locs ls hP hD hS hl2)
theorem yi_astore_n (E : YE p m meth c cc nL s args own r w 0 A) {kk : Fin 4} {x : Nat} {lv' : List (Nat × Value)} (hd : decode cc pc = .ok (.astore_n kk, 1)) (hn : (kk : Nat) < nL) (hl' : ((kk : Nat), Value.ref x) :: lv.filter (fun q => !(q.1 == (kk : Nat)) && !(q.1 + 1 == (kk : Nat) && q.2.category == 2)) = lv') (k : YI p l e R s m args below meth c w A Q nL cs ss ws (pc + 1) lv' rest) : YI p l e R s m args below meth c w A Q nL cs ss ws pc lv (.ref x :: rest) := fun H locs _ hP hD hS hl => lv_astore_n E.1.1 E.1.2.1 hd rfl hl hn hl' (fun ls hl2 => k H locs ls hP hD hS hl2)
theorem yi_iinc (E : YE p m meth c cc nL s args own r w 0 A) {i : Nat} {z : Int} {x v : Int32} {lv' : List (Nat × Value)} (hd : decode cc pc = .ok (.iinc i z, 3)) (j : Nat) (hj : lv[j]? = some (i, .int x)) (hv : x + Int32.ofInt z = v) (hn : i < nL) (hl' : (i, Value.int v) :: lv.filter (fun q => !(q.1 == i) && !(q.1 + 1 == i && q.2.category == 2)) = lv') (k : YI p l e R s m args below meth c w A Q nL cs ss ws (pc + 3) lv' rest) : YI p l e R s m args below meth c w A Q nL cs ss ws pc lv rest := fun H locs _ hP hD hS hl => lv_iinc E.1.1 E.1.2.1 hd hl hj hv hn hl' (fun ls hl2 => k H locs ls hP hD hS hl2)
theorem yi_objInit (E : YE p m meth c cc nL s args own r w 0 A) {index a : Nat} (h1 : .methodLink own index objectInit ∈ wG) (h2 : .instanceMethod objectInit ∈ wG) (h3 : .code objectInit ⟨#[0xb1]⟩ 1 none ∈ wG) (hf : 1 ≤ R.frames) (hlo : ((rest.map fun v => v.category).sum) + 12 ≤ R.locals) (hd : decode cc pc = .ok (.invokespecial index, 3)) (kk : YI p l e R s m args below meth c w A Q nL cs ss ws (pc + 3) lv rest) : YI p l e R s m args below meth c w A Q nL cs ss ws pc lv (.ref a :: rest) := fun H locs ls hP hD hS hl =>
  W.objInit E.1.1 E.1.2.1 E.1.2.2.2.1 (E.1.2.2.2.2 _ h1) (E.1.2.2.2.2 _ h2) (E.1.2.2.2.2 _ h3) rfl (by rw [E.1.2.2.1]; exact hl.1) rfl hd hf (by show 2 * 0 + _ + 12 ≤ _; omega) (kk H locs ls hP hD hS hl)
theorem yi_get (E : YE p m meth c cc nL s args own r w 0 A) {q a ci index k N : Nat} {C : String} {T : u_T} {fs : List Value} {v : Value} (he : ws[q]? = some (a, .inr (ci, fs))) (hc : vwCl[ci]? = some (C, T, N)) (hin : ∀ x ∈ u_ws C T N, x ∈ wG) (hk : k < N) (hlink : Cond.fieldLink own index (T k).1 (T k).2.1 (T k).2.2.1 ∈ wG) (hv : fs[k]? = some v) (hd : decode cc pc = .ok (.getfield index, 3)) (kk : YI p l e R s m args below meth c w A Q nL cs ss ws (pc + 3) lv (v :: rest)) : YI p l e R s m args below meth c w A Q nL cs ss ws pc lv (.ref a :: rest) := fun H locs ls hP hD hS hl =>
  va_get (tys := yTys w) E.1.1 E.1.2.1 E.1.2.2.2.2 hin E.1.2.2.2.1 E.2.1.1 hP q he hc k hk (E.1.2.2.2.2 _ hlink) (fun _ h => h) hv hd (kk H locs ls hP hD hS hl)
theorem yi_put (E : YE p m meth c cc nL s args own r w 0 A) {q a ci index k N : Nat} {C : String} {T : u_T} {fs : List Value} {v : Value} {ty : FieldType} (he : ws[q]? = some (a, .inr (ci, fs))) (hc : vwCl[ci]? = some (C, T, N)) (hin : ∀ x ∈ u_ws C T N, x ∈ wG) (ty0 : Nat → FieldType) (hty : ∀ k, k < N → parseFieldDescriptor (T k).2.2.1 = some (ty0 k)) (hnm : ∀ a, a < N → ∀ b, b < N → a ≠ b → (T a).2.1 ≠ (T b).2.1) (hk : k < N) (hlink : Cond.fieldLink own index (T k).1 (T k).2.1 (T k).2.2.1 ∈ wG) (hfin : (T k).2.2.2 = false) (hdd : parseFieldDescriptor (T k).2.2.1 = some ty) (hn : narrow ty v = v) (hfit : fits ty v = true) (hl0 : k < fs.length) (hw : ws.set q (a, .inr (ci, fs.set k v)) = ws') (hd : decode cc pc = .ok (.putfield index, 3)) (kk : YI p l e R s m args below meth c w A Q nL cs ss ws' (pc + 3) lv rest) : YI p l e R s m args below meth c w A Q nL cs ss ws pc lv (v :: .ref a :: rest) := fun H locs ls hP hD hS hl =>
  va_put (tys := yTys w) E.1.1 E.1.2.1 E.1.2.2.2.2 hin ty0 hty hnm E.1.2.2.2.1 E.2.1.1 hP hD hS q he hc k hk (E.1.2.2.2.2 _ hlink) (fun _ h => h) hfin hdd hn hfit hl0 hd (fun H1 locs1 hP1 hD1 hS1 => kk H1 locs1 ls (hw ▸ hP1) (hw ▸ hD1) hS1 hl)
theorem yi_putF (E : YE p m meth c cc nL s args own r w 0 A) {q a ci index k N : Nat} {C : String} {T : u_T} {fs : List Value} {v : Value} {ty : FieldType} (he : ws[q]? = some (a, .inr (ci, fs))) (hc : vwCl[ci]? = some (C, T, N)) (hin : ∀ x ∈ u_ws C T N, x ∈ wG) (ty0 : Nat → FieldType) (hty : ∀ k, k < N → parseFieldDescriptor (T k).2.2.1 = some (ty0 k)) (hnm : ∀ a, a < N → ∀ b, b < N → a ≠ b → (T a).2.1 ≠ (T b).2.1) (hk : k < N) (hlink : Cond.fieldLink own index (T k).1 (T k).2.1 (T k).2.2.1 ∈ wG) (hfin : (T k).2.2.2 = true) (hin2 : meth.name = "<init>") (hdecl : (T k).1 = own) (hdd : parseFieldDescriptor (T k).2.2.1 = some ty) (hn : narrow ty v = v) (hfit : fits ty v = true) (hl0 : k < fs.length) (hw : ws.set q (a, .inr (ci, fs.set k v)) = ws') (hd : decode cc pc = .ok (.putfield index, 3)) (kk : YI p l e R s m args below meth c w A Q nL cs ss ws' (pc + 3) lv rest) : YI p l e R s m args below meth c w A Q nL cs ss ws pc lv (v :: .ref a :: rest) := fun H locs ls hP hD hS hl =>
  va_putF (tys := yTys w) E.1.1 E.1.2.1 E.1.2.2.2.2 hin ty0 hty hnm E.1.2.2.2.1 E.2.1.1 hP hD hS q he hc k hk (E.1.2.2.2.2 _ hlink) (fun _ h => h) hfin hin2 hdecl hdd hn hfit hl0 hd (fun H1 locs1 hP1 hD1 hS1 => kk H1 locs1 ls (hw ▸ hP1) (hw ▸ hD1) hS1 hl)
theorem yi_iald (E : YE p m meth c cc nL s args own r w 0 A) {q a N : Nat} {f : Nat → Int32} {i v : Int32} (he : ws[q]? = some (a, .inl (w.2.1 1, N, .inl f))) (hin : vp_in i N) (hv : f i.toNatClampNeg = v) (hd : decode cc pc = .ok (.iaload, 1)) (kk : YI p l e R s m args below meth c w A Q nL cs ss ws (pc + 1) lv (.int v :: rest)) : YI p l e R s m args below meth c w A Q nL cs ss ws pc lv (.int i :: .ref a :: rest) := fun H locs ls hP hD hS hl =>
  va_iald (tys := yTys w) E.1.1 E.1.2.1 E.2.1.1 hP q 1 he rfl hin hd (by rw [hv]; exact kk H locs ls hP hD hS hl)
theorem yi_iast (E : YE p m meth c cc nL s args own r w 0 A) {q a N : Nat} {f : Nat → Int32} {i x : Int32} (he : ws[q]? = some (a, .inl (w.2.1 1, N, .inl f))) (hin : vp_in i N) (hd : decode cc pc = .ok (.iastore, 1)) (kk : ∀ f' : Nat → Int32, f' = upd f i.toNatClampNeg x → YI p l e R s m args below meth c w A Q nL cs ss (ws.set q (a, .inl (w.2.1 1, N, .inl f'))) (pc + 1) lv rest) : YI p l e R s m args below meth c w A Q nL cs ss ws pc lv (.int x :: .int i :: .ref a :: rest) := fun H locs ls hP hD hS hl =>
  va_iast (tys := yTys w) E.1.1 E.1.2.1 E.2.1.1 hP hD hS q 1 he rfl hin hd (fun H1 locs1 hP1 hD1 hS1 => kk _ rfl H1 locs1 ls hP1 hD1 hS1 hl)
theorem yi_iastc (E : YE p m meth c cc nL s args own r w 0 A) {q a N : Nat} {f f' : Nat → Int32} {i x : Int32} (he : ws[q]? = some (a, .inl (w.2.1 1, N, .inl f))) (hin : vp_in i N) (hf : upd f i.toNatClampNeg x = f') (hw : ws.set q (a, .inl (w.2.1 1, N, .inl f')) = ws') (hd : decode cc pc = .ok (.iastore, 1)) (kk : YI p l e R s m args below meth c w A Q nL cs ss ws' (pc + 1) lv rest) : YI p l e R s m args below meth c w A Q nL cs ss ws pc lv (.int x :: .int i :: .ref a :: rest) := fun H locs ls hP hD hS hl =>
  va_iast (tys := yTys w) E.1.1 E.1.2.1 E.2.1.1 hP hD hS q 1 he rfl hin hd (fun H1 locs1 hP1 hD1 hS1 => kk H1 locs1 ls (by rw [hf, hw] at hP1; exact hP1) (by rw [hf, hw] at hD1; exact hD1) hS1 hl)
theorem yi_aald (E : YE p m meth c cc nL s args own r w 0 A) {q a N t0 : Nat} {cA : ClassId} {C : String} {f : Nat → Option Nat} {i : Int32} {v : Nat} (he : ws[q]? = some (a, .inl (cA, N, .inr (.inr (.inr (.inr f)))))) (ht : (yTys w)[t0]? = some (cA, .object C)) (hin : vp_in i N) (hv : f i.toNatClampNeg = some v) (hd : decode cc pc = .ok (.aaload, 1)) (kk : YI p l e R s m args below meth c w A Q nL cs ss ws (pc + 1) lv (.ref v :: rest)) : YI p l e R s m args below meth c w A Q nL cs ss ws pc lv (.int i :: .ref a :: rest) := fun H locs ls hP hD hS hl =>
  va_aldq (tys := yTys w) E.1.1 E.1.2.1 E.2.1.1 hP q t0 he ht hin hd (by rw [hv]; exact kk H locs ls hP hD hS hl)
theorem yi_aast (E : YE p m meth c cc nL s args own r w 0 A) {q a N t0 qk ci v : Nat} {cA : ClassId} {rr : vw_C} {vs : List Value} {f : Nat → Option Nat} {i : Int32} (ha : ws[q]? = some (a, .inl (cA, N, .inr (.inr (.inr (.inr f)))))) (ht : (yTys w)[t0]? = some (cA, .object rr.1)) (hv : ws[qk]? = some (v, .inr (ci, vs))) (hc : vwCl[ci]? = some rr) (hin : vp_in i N) (hd : decode cc pc = .ok (.aastore, 1)) (kk : ∀ f' : Nat → Option Nat, f' = va_up f i.toNatClampNeg (some v) → YI p l e R s m args below meth c w A Q nL cs ss (ws.set q (a, .inl (cA, N, .inr (.inr (.inr (.inr f')))))) (pc + 1) lv rest) : YI p l e R s m args below meth c w A Q nL cs ss ws pc lv (.ref v :: .int i :: .ref a :: rest) := fun H locs ls hP hD hS hl =>
  va_astq (tys := yTys w) E.1.1 E.1.2.1 E.2.1.1 hP hD hS q t0 qk ci ha ht hv hc hin hd (fun H1 locs1 hP1 hD1 hS1 => kk _ rfl H1 locs1 ls hP1 hD1 hS1 hl)
theorem yi_aastS (E : YE p m meth c cc nL s args own r w 0 A) {q a N t0 qk ci v : Nat} {cA : ClassId} {C D : String} {T : u_T} {n0 : Nat} {vs : List Value} {f : Nat → Option Nat} {i : Int32} (ha : ws[q]? = some (a, .inl (cA, N, .inr (.inr (.inr (.inr f)))))) (ht : (yTys w)[t0]? = some (cA, .object C)) (hv : ws[qk]? = some (v, .inr (ci, vs))) (hc : vwCl[ci]? = some (D, T, n0)) (hsub : va_Nw (.castable D C) s) (hin : vp_in i N) (hd : decode cc pc = .ok (.aastore, 1)) (kk : ∀ f' : Nat → Option Nat, f' = va_up f i.toNatClampNeg (some v) → YI p l e R s m args below meth c w A Q nL cs ss (ws.set q (a, .inl (cA, N, .inr (.inr (.inr (.inr f')))))) (pc + 1) lv rest) : YI p l e R s m args below meth c w A Q nL cs ss ws pc lv (.ref v :: .int i :: .ref a :: rest) := fun H locs ls hP hD hS hl =>
  va_astqO (tys := yTys w) E.1.1 E.1.2.1 E.2.1.1 hP hD hS q t0 qk ci ha ht hsub hv hc hin hd (fun H1 locs1 hP1 hD1 hS1 => kk _ rfl H1 locs1 ls hP1 hD1 hS1 hl)
theorem yi_new (E : YE p m meth c cc nL s args own r w 0 A) {ci index N : Nat} {C : String} {T : u_T} {fs : List Value} (hc : vwCl[ci]? = some (C, T, N)) (hin : ∀ x ∈ u_ws C T N, x ∈ wG) (ty : Nat → FieldType) (hty : ∀ k, k < N → parseFieldDescriptor (T k).2.2.1 = some (ty k)) (h1 : .classLink own index C ∈ wG) (h2 : .instantiable C N ∈ wG) (h3 : .initialized C ∈ wG) (hfs : ∀ j, j < N → defaultValue (ty j) = vp_V fs j) (hcs : cs + 1 ≤ R.cells ∧ ss + N ≤ R.slots) (hd : decode cc pc = .ok (.new index, 3)) (kk : ∀ q : Nat, YI p l e R s m args below meth c w A Q nL (cs + 1) (ss + N) (ws ++ [(q, .inr (ci, fs))]) (pc + 3) lv (.ref q :: rest)) : YI p l e R s m args below meth c w A Q nL cs ss ws pc lv rest := fun H locs ls hP hD hS hl =>
  va_new (tys := yTys w) E.1.1 E.1.2.1 E.1.2.2.2.2 hin ty hty E.1.2.2.2.1 (E.1.2.2.2.2 _ h1) (E.1.2.2.2.2 _ h2) (E.1.2.2.2.2 _ h3) E.2.1.1 hP hD hS E.2.2.2.2.1 hc hfs hcs.1 hcs.2 hd (fun q H1 hP1 hD1 hS1 => kk q H1 locs ls hP1 hD1 hS1 hl)
theorem yi_newaI (E : YE p m meth c cc nL s args own r w 0 A) {n : Int32} {N' : Nat} (harr : Cond.arrayClass (newarray.typeOf .int) ∈ wG) (hn : ¬ n < 0) (hN : n.toNatClampNeg = N') (hbytes : N' * componentBytes .int ≤ 536870912) (hcs : cs + 1 ≤ R.cells ∧ ss + N' ≤ R.slots) (hd : decode cc pc = .ok (.newarray .int, 2)) (kk : ∀ q : Nat, YI p l e R s m args below meth c w A Q nL (cs + 1) (ss + N') (ws ++ [(q, .inl (w.2.1 1, N', .inl (fun _ => 0)))]) (pc + 2) lv (.ref q :: rest)) : YI p l e R s m args below meth c w A Q nL cs ss ws pc lv (.int n :: rest) := fun H locs ls hP hD hS hl =>
  va_newa (tys := yTys w) (ty := .int) (a0 := (N', .inl (fun _ => 0))) E.1.1 E.1.2.1 (E.1.2.2.2.2 _ harr) rfl E.2.1.1 hP hD hS E.2.2.2.2.1 (fun cA => rfl) hn hN hbytes hcs.1 hcs.2 hd (fun q cA H1 hK1 hP1 hD1 hS1 => by
    have e1 : s.vm.findClass ("[" ++ (.int : FieldType).toString) = some cA := (hK1.2 5 (cA, .int) rfl).2
    have e2 : s.vm.findClass ("[" ++ (.int : FieldType).toString) = some (w.2.1 1) := (E.2.1.1.2 1 (w.2.1 1, .int) rfl).2
    have e3 : cA = w.2.1 1 := Option.some.inj (e1.symm.trans e2)
    subst e3
    exact kk q H1 locs ls hP1 hD1 hS1 hl)
theorem yi_newaB (E : YE p m meth c cc nL s args own r w 0 A) {n : Int32} {N' : Nat} (harr : Cond.arrayClass (newarray.typeOf .byte) ∈ wG) (hn : ¬ n < 0) (hN : n.toNatClampNeg = N') (hbytes : N' * componentBytes .byte ≤ 536870912) (hcs : cs + 1 ≤ R.cells ∧ ss + N' ≤ R.slots) (hd : decode cc pc = .ok (.newarray .byte, 2)) (kk : ∀ q : Nat, YI p l e R s m args below meth c w A Q nL (cs + 1) (ss + N') (ws ++ [(q, .inl (w.2.1 0, N', .inl (fun _ => 0)))]) (pc + 2) lv (.ref q :: rest)) : YI p l e R s m args below meth c w A Q nL cs ss ws pc lv (.int n :: rest) := fun H locs ls hP hD hS hl =>
  va_newa (tys := yTys w) (ty := .byte) (a0 := (N', .inl (fun _ => 0))) E.1.1 E.1.2.1 (E.1.2.2.2.2 _ harr) rfl E.2.1.1 hP hD hS E.2.2.2.2.1 (fun cA => rfl) hn hN hbytes hcs.1 hcs.2 hd (fun q cA H1 hK1 hP1 hD1 hS1 => by
    have e1 : s.vm.findClass ("[" ++ (.byte : FieldType).toString) = some cA := (hK1.2 5 (cA, .byte) rfl).2
    have e2 : s.vm.findClass ("[" ++ (.byte : FieldType).toString) = some (w.2.1 0) := (E.2.1.1.2 0 (w.2.1 0, .byte) rfl).2
    have e3 : cA = w.2.1 0 := Option.some.inj (e1.symm.trans e2)
    subst e3
    exact kk q H1 locs ls hP1 hD1 hS1 hl)
theorem yi_newq (E : YE p m meth c cc nL s args own r w 0 A) {C : String} {index t0 : Nat} {cA0 : ClassId} {n : Int32} {N' : Nat} (ht : (yTys w)[t0]? = some (cA0, .object C)) (h1 : .classLink own index C ∈ wG) (hover : va_AO C s) (hn : ¬ n < 0) (hN : n.toNatClampNeg = N') (hbytes : N' * 4 ≤ 536870912) (hcs : cs + 1 ≤ R.cells ∧ ss + N' ≤ R.slots) (hd : decode cc pc = .ok (.anewarray index, 3)) (kk : ∀ q : Nat, YI p l e R s m args below meth c w A Q nL (cs + 1) (ss + N') (ws ++ [(q, .inl (cA0, N', .inr (.inr (.inr (.inr (fun _ => none))))))]) (pc + 3) lv (.ref q :: rest)) : YI p l e R s m args below meth c w A Q nL cs ss ws pc lv (.int n :: rest) := fun H locs ls hP hD hS hl =>
  va_newq (tys := yTys w) E.1.1 E.1.2.1 E.1.2.2.2.1 (E.1.2.2.2.2 _ h1) hover E.2.1.1 hP hD hS E.2.2.2.2.1 hn hN hbytes hcs.1 hcs.2 hd (fun q cA H1 hK1 hP1 hD1 hS1 => by
    obtain ⟨_, _, _, _, _, e1⟩ := (hK1.2 5 (cA, .object C) rfl).2
    obtain ⟨_, _, _, _, _, e2⟩ := (E.2.1.1.2 t0 (cA0, .object C) ht).2
    have e3 : cA = cA0 := Option.some.inj (e1.symm.trans e2)
    subst e3
    exact kk q H1 locs ls hP1 hD1 hS1 hl)
theorem yi_ws (E : YE p m meth c cc nL s args own r w 0 A) (is : List Nat) (hs : is.filterMap (fun i => ws[i]?) = ws') (hs2 : is.map (fun i => ws[i]?) = ws'.map some) (hn : va_nd is = true) (kk : YI p l e R s m args below meth c w A Q nL cs ss ws' pc lv st) : YI p l e R s m args below meth c w A Q nL cs ss ws pc lv st := fun H locs ls hP hD hS hl => kk H locs ls (hP.sub is hs) (hD.sub is hn hs2) hS hl
theorem yi_eq {ws' : va_W} (hs : ws = ws') (kk : YI p l e R s m args below meth c w A Q nL cs ss ws' pc lv st) : YI p l e R s m args below meth c w A Q nL cs ss ws pc lv st := hs ▸ kk
theorem yi_lv {lv' : List (Nat × Value)} (ks : List Nat) (hl : lv_pick lv ks = lv') (k : YI p l e R s m args below meth c w A Q nL cs ss ws pc lv' st) : YI p l e R s m args below meth c w A Q nL cs ss ws pc lv st := fun H locs ls hP hD hS h => k H locs ls hP hD hS (lv_sub h ks hl)
theorem yi_vret {S : Type} {K : S → Prop} {W1 : S → va_W} (E : YE p m meth c cc nL s args own none w 0 A) (hd : decode cc pc = .ok (.return_, 1)) (u : S) (hK : K u) (hw : ws = W1 u) : YI p l e R s m args below meth c w A (MQ below (va_Qv (S := S) K (fun u t => va_P w.2.2.1 vwCl (W1 u) t.heap ∧ va_D A (W1 u)) A) args s cs ss A) nL cs ss ws pc lv [] := fun H locs ls hP hD hS hl =>
  W.vret E.1.1 E.1.2.1 E.2.2.2.2.2.1 (fun t ht hW => ⟨⟨u, rfl, hK, by rw [ht, ← hw]; exact hP, by rw [← hw]; exact hD⟩, hS.F ht⟩) hS.2.2 hd E.2.2.2.2.2.2
theorem yi_preI (E : YE p m meth c cc nL s args own r w 0 A) {H : Heap} {locs : List Loc} {wsC : va_W} (hPC : va_P w.2.2.1 vwCl wsC H) (hDC : va_D (fun _ => True) wsC) (hS : va_S A s.heap H locs) (hfr : ∀ q, va_A wsC H.size q → A q) {av : List Value} {a : Array Value} (ha : a = av.toArray) : ∀ U : State, U.heap = H → s.WarmedH U.vm → va_Pc av (fun U => U.heap.size = H.size ∧ va_P w.2.2.1 vwCl wsC U.heap ∧ va_D (fun _ => True) wsC ∧ yG w (va_A wsC H.size) U) a U := by
  intro U hU hW
  refine ⟨ha, by rw [hU], by rw [hU]; exact hPC, hDC, E.2.1.at hW ?_ hfr⟩
  intro q h1 h2
  rw [hU]
  exact hS.2.1 q h1 h2
theorem yi_blind {w : wT} {wsC : va_W} {sz : Nat} {av : List Value} : FrameBlind (va_Pc av (fun U => U.heap.size = sz ∧ va_P w.2.2.1 vwCl wsC U.heap ∧ va_D (fun _ => True) wsC ∧ yG w (va_A wsC sz) U)) := fun a U g mk q => ⟨q.1, q.2.1, q.2.2.1, q.2.2.2.1, q.2.2.2.2.calling g mk a⟩
variable {y : MethodName} {b : ByteArray} {nL' d mc ms k index a : Nat} {As : List Value} {wsC wsR : va_W} {S : Type} {W1 : S → va_W} {K : S → Prop} {host : String}
theorem yi_init (E : YE p m meth c cc nL s args own r w 0 A) (isC isR : List Nat) (hM : yMetI l w y b nL' d mc ms (.ref a :: As) wsC W1 K) (cw : CallB R s args own index y b nL' none (.code y b nL' none :: wG) (yRmI d mc ms) mc ms k ∧ y.name = "<init>" ∧ (Cond.instanceMethod y).before args s = true) (hC : isC.map (fun i => ws[i]?) = wsC.map some) (hC2 : isC.filterMap (fun i => ws[i]?) = wsC) (hnC : va_nd isC = true) (hR : isR.map (fun i => ws[i]?) = wsR.map some) (hn : va_nd isR = true) (hdis : ∀ i ∈ isR, i ∉ isC) (hk : As.length = k) (hst : st = As.reverse ++ .ref a :: rest) (hr : (rest.map fun v => v.category).sum ≤ 8) (hcs : cs + mc ≤ R.cells ∧ ss + ms ≤ R.slots) (hd : decode cc pc = .ok (.invokespecial index, 3)) (kk : ∀ u : S, K u → YI p l e R s m args below meth c w A Q nL (cs + mc) (ss + ms) (wsR ++ W1 u) (pc + 3) lv rest) : YI p l e R s m args below meth c w A Q nL cs ss ws pc lv st := fun H locs ls hP hD hS hl => by
  have hPC : va_P w.2.2.1 vwCl wsC H := hP.sub isC hC2
  have hDC : va_D A wsC := hD.sub isC hnC hC
  have hF : ∀ q, va_A wsC H.size q → A q := va_free hD hS E.2.2.2.2.1 isC hC
  refine va_callv (S := S) (post := K) (B := fun u t => va_P w.2.2.1 vwCl (W1 u) t.heap ∧ va_D (va_A wsC H.size) (W1 u)) (A1 := va_A wsC H.size) (va_runI E.1 (hM H.size) cw ⟨yi_blind, yi_preI E hPC (hDC.weaken (fun _ _ _ _ => trivial)) hS hF rfl⟩ rfl hk hl.1 hst (lv_room hr) hd hcs) hS (fun q _ h => hF q h) hF (fun u t H1 locs1 ht hvm hw hB hz1 hk1 hS1 => ?_)
  obtain ⟨hP1, hD1⟩ := hB
  rw [ht] at hP1
  obtain ⟨hP2, hD2⟩ := va_join hP hD isC isR hC hR hn hdis hk1 hF hP1 hD1
  exact kk u hw H1 locs1 ls hP2 hD2 hS1 hl
theorem yi_initN (E : YE p m meth c cc nL s args own r w 0 A) (isC isR : List Nat) (hM : yMetI l w y b nL' d mc ms (.ref a :: As) wsC W1 K) (cw : va_CN R s args own index y host b nL' none (.code y b nL' none :: wG) (yRmI d mc ms) mc ms k ∧ y.name = "<init>" ∧ (Cond.instanceMethod y).before args s = true) (hC : isC.map (fun i => ws[i]?) = wsC.map some) (hC2 : isC.filterMap (fun i => ws[i]?) = wsC) (hnC : va_nd isC = true) (hR : isR.map (fun i => ws[i]?) = wsR.map some) (hn : va_nd isR = true) (hdis : ∀ i ∈ isR, i ∉ isC) (hk : As.length = k) (hst : st = As.reverse ++ .ref a :: rest) (hr : (rest.map fun v => v.category).sum ≤ 8) (hcs : cs + mc ≤ R.cells ∧ ss + ms ≤ R.slots) (hd : decode cc pc = .ok (.invokespecial index, 3)) (kk : ∀ u : S, K u → YI p l e R s m args below meth c w A Q nL (cs + mc) (ss + ms) (wsR ++ W1 u) (pc + 3) lv rest) : YI p l e R s m args below meth c w A Q nL cs ss ws pc lv st := fun H locs ls hP hD hS hl => by
  have hPC : va_P w.2.2.1 vwCl wsC H := hP.sub isC hC2
  have hDC : va_D A wsC := hD.sub isC hnC hC
  have hF : ∀ q, va_A wsC H.size q → A q := va_free hD hS E.2.2.2.2.1 isC hC
  refine va_callv (S := S) (post := K) (B := fun u t => va_P w.2.2.1 vwCl (W1 u) t.heap ∧ va_D (va_A wsC H.size) (W1 u)) (A1 := va_A wsC H.size) (va_runIN E.1 (hM H.size) cw ⟨yi_blind, yi_preI E hPC (hDC.weaken (fun _ _ _ _ => trivial)) hS hF rfl⟩ rfl hk hl.1 hst (lv_room hr) hd hcs) hS (fun q _ h => hF q h) hF (fun u t H1 locs1 ht hvm hw hB hz1 hk1 hS1 => ?_)
  obtain ⟨hP1, hD1⟩ := hB
  rw [ht] at hP1
  obtain ⟨hP2, hD2⟩ := va_join hP hD isC isR hC hR hn hdis hk1 hF hP1 hD1
  exact kk u hw H1 locs1 ls hP2 hD2 hS1 hl
theorem yw_sub {w : wT} {cf : cT} {n : Nat} {σ : Hp} {A : Nat → Prop} (hD : va_D A (yw w cf n σ)) : yOk w n ∧ ∀ k, k < n → A (w.1 k) := by
  refine ⟨fun i j hi hj h => ?_, fun k hk => ?_⟩
  · exact hD.1 i j _ _ (yw_get hi) (yw_get hj) h
  · exact hD.2 k _ (yw_get hk)
theorem va_A_yw {w : wT} {cf : cT} {n sz : Nat} {σ : Hp} : va_A (yw w cf n σ) sz = YA w n sz := by
  funext q
  apply propext
  constructor
  · rintro (⟨k, e, h⟩ | h)
    · obtain ⟨h1, h2⟩ := yw_inv h
      exact Or.inl ⟨k, h1, h2⟩
    · exact Or.inr h
  · rintro (⟨k, h, rfl⟩ | h)
    · exact Or.inl ⟨k, _, yw_get h⟩
    · exact Or.inr h
theorem yG.ad {w w' : wT} {A : Nat → Prop} {U : State} (hw : w'.2 = w.2) (h : yG w A U) : yG w' A U := by
  obtain ⟨a, b⟩ := w
  obtain ⟨a', b'⟩ := w'
  cases hw
  exact h
theorem yi_callY {cf : cT} {n : Nat} {w' : wT} {σ : Hp} {r' : Option FieldType} {Qk : (Nat → Prop) → Array Value → State → Outcome → State → Prop} {C : String} {T : u_T} {N ci o : Nat} {fs : List Value} (E : YE p m meth c cc nL s args own r w 0 A) (isC : List Nat) (hM : yOk w' n → yMet l w' cf n y b nL' r' d (.ref a :: As) σ Qk) (hw' : w'.2 = w.2) (cw : CallW R s args own C index y b nL' r' (.code y b nL' r' :: wG) (yRm d) 0 0 k) (hC2 : isC.filterMap (fun i => ws[i]?) = yw w' cf n σ) (hC : isC.map (fun i => ws[i]?) = (yw w' cf n σ).map some) (hnC : va_nd isC = true) (hk : As.length = k) (hrecv : ws[o]? = some (a, .inr (ci, fs))) (hvc : vwCl[ci]? = some (C, T, N)) (hst : st = As.reverse ++ .ref a :: rest) (hr : (rest.map fun v => v.category).sum ≤ 8) (hd : decode cc pc = .ok (.invokevirtual index, 3)) (hcs : cs + 0 ≤ R.cells ∧ ss + 0 ≤ R.slots) :
    ∀ (H : Heap) (locs : List Loc) (ls : Array Slot), va_P w.2.2.1 vwCl ws H → va_D A ws → va_S A s.heap H locs → lv_has ls nL lv → va_Run p l e R s m args below meth c H locs cs ss 0 0 (F0 m pc ls st) rest (Qk (YA w' n H.size) (Value.ref a :: As).toArray) (YA w' n H.size) := fun H locs ls hP hD hS hl => by
  have e1 : w'.2.2.1 = w.2.2.1 := by rw [hw']
  have hPC : va_P w'.2.2.1 vwCl (yw w' cf n σ) H := by rw [e1]; exact hP.sub isC hC2
  have hF : ∀ q, YA w' n H.size q → A q := by
    rw [← va_A_yw (cf := cf) (σ := σ)]
    exact va_free hD hS E.2.2.2.2.1 isC hC
  have hok : yOk w' n := (yw_sub (cf := cf) (σ := σ) (hD.sub isC hnC hC)).1
  refine va_runV E.1 (hM hok H.size) cw ⟨yPre.blind, va_recv E.2.1.1 hP (ci := ci) (q0 := o) hvc hrecv, fun U hU hW => ?_⟩ rfl hk hl.1 hst (lv_room hr) hd hcs
  refine ⟨rfl, by rw [hU], by rw [hU]; exact hPC, (E.2.1.at hW ?_ hF).ad hw'⟩
  intro q h1 h2
  rw [hU]
  exact hS.2.1 q h1 h2
theorem yi_callYv {cf : cT} {n : Nat} {w' : wT} {σ : Hp} {KK : Hp → Prop} (E : YE p m meth c cc nL s args own r w 0 A) (isC isR : List Nat) (hw' : w'.2 = w.2) (hC : isC.map (fun i => ws[i]?) = (yw w' cf n σ).map some) (hC2 : isC.filterMap (fun i => ws[i]?) = yw w' cf n σ) (hnC : va_nd isC = true) (hR : isR.map (fun i => ws[i]?) = wsR.map some) (hn : va_nd isR = true) (hdis : ∀ i ∈ isR, i ∉ isC) {aa : Array Value}
    (hrun : ∀ (H : Heap) (locs : List Loc) (ls : Array Slot), va_P w.2.2.1 vwCl ws H → va_D A ws → va_S A s.heap H locs → lv_has ls nL lv → va_Run p l e R s m args below meth c H locs cs ss 0 0 (F0 m pc ls st) rest (yQv w' cf n KK (YA w' n H.size) aa) (YA w' n H.size))
    (kk : ∀ u : Hp, KK u → YI p l e R s m args below meth c w A Q nL cs ss (wsR ++ yw w' cf n u) (pc + 3) lv rest) : YI p l e R s m args below meth c w A Q nL cs ss ws pc lv st := fun H locs ls hP hD hS hl => by
  have e1 : w'.2.2.1 = w.2.2.1 := by rw [hw']
  have hok : yOk w' n := (yw_sub (cf := cf) (σ := σ) (hD.sub isC hnC hC)).1
  have hFA : ∀ q, va_A (yw w' cf n σ) H.size q → A q := va_free hD hS E.2.2.2.2.1 isC hC
  have hF : ∀ q, YA w' n H.size q → A q := by rw [← va_A_yw (cf := cf) (σ := σ)]; exact hFA
  refine va_callv (S := Hp) (post := KK) (B := yB w' cf n) (A1 := YA w' n H.size) (hrun H locs ls hP hD hS hl) hS (fun q _ h => hF q h) hF (fun u t H1 locs1 ht _ hku hB _ hk1 hS1 => ?_)
  have hP1 : va_P w.2.2.1 vwCl (yw w' cf n u) H1 := by rw [← e1, ← ht]; exact hB
  have hk1' : ∀ q : Nat, q < H.size → ¬ va_A (yw w' cf n σ) H.size q → H1[q]? = H[q]? := by rw [va_A_yw]; exact hk1
  have hD1 : va_D (va_A (yw w' cf n σ) H.size) (yw w' cf n u) := by
    rw [va_A_yw]
    exact y_D hok (fun k hk => Or.inl ⟨k, hk, rfl⟩)
  obtain ⟨hP2, hD2⟩ := va_join hP hD isC isR hC hR hn hdis hk1' hFA hP1 hD1
  exact kk u hku H1 locs1 ls hP2 hD2 hS1 hl
theorem yi_callYi {cf : cT} {n : Nat} {w' : wT} {σ : Hp} {KK : Int32 → Hp → Prop} (E : YE p m meth c cc nL s args own r w 0 A) (isC isR : List Nat) (hw' : w'.2 = w.2) (hC : isC.map (fun i => ws[i]?) = (yw w' cf n σ).map some) (hC2 : isC.filterMap (fun i => ws[i]?) = yw w' cf n σ) (hnC : va_nd isC = true) (hR : isR.map (fun i => ws[i]?) = wsR.map some) (hn : va_nd isR = true) (hdis : ∀ i ∈ isR, i ∉ isC) {aa : Array Value}
    (hrun : ∀ (H : Heap) (locs : List Loc) (ls : Array Slot), va_P w.2.2.1 vwCl ws H → va_D A ws → va_S A s.heap H locs → lv_has ls nL lv → va_Run p l e R s m args below meth c H locs cs ss 0 0 (F0 m pc ls st) rest (yQi w' cf n KK (YA w' n H.size) aa) (YA w' n H.size))
    (kk : ∀ (v : Int32) (u : Hp), KK v u → YI p l e R s m args below meth c w A Q nL cs ss (wsR ++ yw w' cf n u) (pc + 3) lv (.int v :: rest)) : YI p l e R s m args below meth c w A Q nL cs ss ws pc lv st := fun H locs ls hP hD hS hl => by
  have e1 : w'.2.2.1 = w.2.2.1 := by rw [hw']
  have hok : yOk w' n := (yw_sub (cf := cf) (σ := σ) (hD.sub isC hnC hC)).1
  have hFA : ∀ q, va_A (yw w' cf n σ) H.size q → A q := va_free hD hS E.2.2.2.2.1 isC hC
  have hF : ∀ q, YA w' n H.size q → A q := by rw [← va_A_yw (cf := cf) (σ := σ)]; exact hFA
  refine va_calli (S := Hp) (post := KK) (B := yB w' cf n) (A1 := YA w' n H.size) (hrun H locs ls hP hD hS hl) hS (fun q _ h => hF q h) hF (fun v u t H1 locs1 ht _ hku hB _ hk1 hS1 => ?_)
  have hP1 : va_P w.2.2.1 vwCl (yw w' cf n u) H1 := by rw [← e1, ← ht]; exact hB
  have hk1' : ∀ q : Nat, q < H.size → ¬ va_A (yw w' cf n σ) H.size q → H1[q]? = H[q]? := by rw [va_A_yw]; exact hk1
  have hD1 : va_D (va_A (yw w' cf n σ) H.size) (yw w' cf n u) := by
    rw [va_A_yw]
    exact y_D hok (fun k hk => Or.inl ⟨k, hk, rfl⟩)
  obtain ⟨hP2, hD2⟩ := va_join hP hD isC isR hC hR hn hdis hk1' hFA hP1 hD1
  exact kk v u hku H1 locs1 ls hP2 hD2 hS1 hl
theorem va_at_q {D : va_G} {cl : List vw_C} {H : Heap} {a N : Nat} {cA : ClassId} {f g : Nat → Option Nat} (h : ∀ j, j < N → f j = g j) (ha : va_at D cl (a, .inl (cA, N, .inr (.inr (.inr (.inr f))))) H) : va_at D cl (a, .inl (cA, N, .inr (.inr (.inr (.inr g))))) H := by
  have e : vp_cell cA (N, .inr (.inr (.inr (.inr f)))) = vp_cell cA (N, .inr (.inr (.inr (.inr g)))) := by
    rw [vp_cell_q, vp_cell_q]
    unfold arrV
    congr 1
    apply Array.ext
    · simp
    · intro i h1 h2
      simp at h1
      simp [h i h1]
  show H[a]? = some (vp_cell _ _)
  rw [← e]
  exact ha
theorem yOk_of {w : wT} {A : Nat → Prop} {ws : va_W} {qs : List Nat} {n : Nat} (hD : va_D A ws) (hm : ws.map (fun q => q.1) = qs) (hn : qs.length = n) : yOk ((fun k => qs.getD k 0), w.2) n ∧ ∀ k, k < n → A (qs.getD k 0) := by
  subst hm
  have key : ∀ k, k < n → ∃ e, ws[k]? = some ((ws.map (fun q => q.1)).getD k 0, e) := by
    intro k hk
    have hk2 : k < ws.length := by rw [List.length_map] at hn; omega
    refine ⟨ws[k].2, ?_⟩
    rw [List.getElem?_eq_getElem hk2]
    simp [hk2]
  refine ⟨fun i j hi hj h => ?_, fun k hk => ?_⟩
  · obtain ⟨e1, h1⟩ := key i hi
    obtain ⟨e2, h2⟩ := key j hj
    exact hD.1 i j _ _ h1 h2 h
  · obtain ⟨e1, h1⟩ := key k hk
    exact hD.2 k _ h1
theorem yi_vretP {S : Type} {K : S → Prop} {W1 : S → va_W} (E : YE p m meth c cc nL s args own none w 0 A) (hd : decode cc pc = .ok (.return_, 1)) (u : S) (hK : K u) (hw : ∀ H : Heap, va_P w.2.2.1 vwCl ws H → va_P w.2.2.1 vwCl (W1 u) H) (hw2 : va_D A ws → va_D A (W1 u)) : YI p l e R s m args below meth c w A (MQ below (va_Qv (S := S) K (fun u t => va_P w.2.2.1 vwCl (W1 u) t.heap ∧ va_D A (W1 u)) A) args s cs ss A) nL cs ss ws pc lv [] := fun H locs ls hP hD hS hl =>
  W.vret E.1.1 E.1.2.1 E.2.2.2.2.2.1 (fun t ht hW => ⟨⟨u, rfl, hK, by rw [ht]; exact hw H hP, hw2 hD⟩, hS.F ht⟩) hS.2.2 hd E.2.2.2.2.2.2
end YIROWS
theorem yi_start {S : Type} {l : Launch} {w : wT} {y : MethodName} {b : ByteArray} {nL d mc ms : Nat} {av : List Value} {ws0 : va_W} {W1 : S → va_W} {K : S → Prop} {own : String} {lv0 : List (Nat × Value)} (hy : plainName y.cls = true) (hown : y.cls = own) (hlen : (lg_sl av).length ≤ nL) (hlv : lv_args 0 av = lv0)
    (body : ∀ p e s m below meth c A, meth.name = y.name → YE p m meth c b nL s av.toArray own none w 0 A → YI p l e (yRmI d mc ms) s m av.toArray below meth c w A (MQ below (va_Qv (S := S) K (fun u t => va_P w.2.2.1 vwCl (W1 u) t.heap ∧ va_D A (W1 u)) A) av.toArray s mc ms A) nL 0 0 ws0 0 lv0 []) : yMetI l w y b nL d mc ms av ws0 W1 K := by
  intro sz
  refine Met.ofW (cc := b) (maxL := nL) (ret := none) hy rfl ?_
  intro p e s m args below meth c s₁ B hml hv
  obtain ⟨rfl, hsz, hP, hD0, hG⟩ := hv
  subst hsz
  have hts := atoms_spec (ws := .code y b nL none :: wG) B.pre
  have hown2 : s.vm.findClass own = some m.cls := by rw [← hown]; exact findClass_of_methodNamed B.named
  have hname : meth.name = y.name := (name_of_methodNamed B.named B.method).1
  have h := body p e s m below meth c (va_A ws0 s.heap.size) hname ⟨⟨B.exec, B.bytes, hml, hown2, fun w hw => hts w (List.mem_cons_of_mem _ hw)⟩, hG, fun i j hi _ _ => absurd hi (Nat.not_lt_zero i), fun k hk => absurd hk (Nat.not_lt_zero k), fun q hq => Or.inr hq, B.returns, B.notSynchronized⟩
  have hl := lv_entry av (n := nL) hlen
  rw [hlv] at hl
  rw [lg_entry_eq]
  exact h s.heap [] _ hP hD0.self va_S.rf hl
