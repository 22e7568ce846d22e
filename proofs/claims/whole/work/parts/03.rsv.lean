/-! what the tables say, checked by the kernel -/
def am_fty (ci k : Nat) : Nat := (am_fts.getD ci []).getD k 0
def am_rsv (o pc nL : Nat) (raw res : Instr) : Bool := match raw with
  | .iconst n => decide (res = .iconst n)
  | .bipush n => match res with | .iconst v => decide ((Int8.ofInt n).toInt32 = Int32.ofInt v) | _ => false
  | .sipush n => match res with | .iconst v => decide ((Int16.ofInt n).toInt32 = Int32.ofInt v) | _ => false
  | .ldc ix => match res with
    | .iconst v => am_IC.any (fun e => e.1 == o && (e.2.1 == ix && decide (e.2.2.1 = v)))
    | .ldc c => am_SC.any (fun e => e.1 == o && (e.2.1 == ix && e.2.2.1 == c))
    | _ => false
  | .ldc_w ix => match res with
    | .iconst v => am_IC.any (fun e => e.1 == o && (e.2.1 == ix && decide (e.2.2.1 = v)))
    | .ldc c => am_SC.any (fun e => e.1 == o && (e.2.1 == ix && e.2.2.1 == c))
    | _ => false
  | .lconst n => decide (res = .lconst n)
  | .iload_n k => decide (res = .iload k)
  | .aload_n k => decide (res = .aload k)
  | .lload_n k => decide (res = .lload k)
  | .iload k => decide (res = .iload k)
  | .aload k => decide (res = .aload k)
  | .lload k => decide (res = .lload k)
  | .istore_n k => decide (res = .istore k) && decide ((k : Nat) < nL)
  | .astore_n k => decide (res = .astore k) && decide ((k : Nat) < nL)
  | .lstore_n k => decide (res = .lstore k) && decide ((k : Nat) + 1 < nL)
  | .istore k => decide (res = .istore k) && decide (k < nL)
  | .astore k => decide (res = .astore k) && decide (k < nL)
  | .iinc k n => decide (res = .iinc k n) && decide (k < nL)
  | .ifCond c off => match res with | .ifCond c' t => decide (c = c') && (decide ((pc : Int) + off = t) && decide (0 ≤ t)) | _ => false
  | .if_icmp c off => match res with | .if_icmp c' t => decide (c = c') && (decide ((pc : Int) + off = t) && decide (0 ≤ t)) | _ => false
  | .goto off => match res with | .goto t => decide ((pc : Int) + off = t) && decide (0 ≤ t) | _ => false
  | .tableswitch d lo hi offs => match res with
    | .lookupswitch t ps => decide ((pc : Int) + d = t) && (decide (0 ≤ t) && (decide (lo + offs.size = hi + 1) && (decide (-2147483648 ≤ lo) && (decide (hi < 2147483648) && (offs.toList.all (fun z => decide (0 ≤ (pc : Int) + z)) && decide (ps.toList = offs.toList.zipIdx.map (fun q => (lo + q.2, (pc : Int) + q.1))))))))
    | _ => false
  | .lookupswitch d prs => match res with
    | .lookupswitch t ps => decide ((pc : Int) + d = t) && (decide (0 ≤ t) && (prs.toList.all (fun z => decide (0 ≤ (pc : Int) + z.2) && (decide (-2147483648 ≤ z.1) && decide (z.1 < 2147483648))) && ((prs.toList.zip (prs.toList.drop 1)).all (fun (a, next) => a.1 < next.1) && decide (ps.toList = prs.toList.map (fun q => (q.1, (pc : Int) + q.2))))))
    | _ => false
  | .getfield ix => match res with | .getfield k => am_FL.any (fun e => e.1 == o && (e.2.1 == ix && (e.2.2.1 * 64 + e.2.2.2.1) * 4 + e.2.2.2.2.1 == k)) | _ => false
  | .putfield ix => match res with | .putfield k => am_FL.any (fun e => e.1 == o && (e.2.1 == ix && ((e.2.2.1 * 64 + e.2.2.2.1) * 4 + e.2.2.2.2.1 == k))) | _ => false
  | .getstatic ix => decide (res = .getstatic 0) && am_ST.any (fun e => e.1 == o && e.2.1 == ix)
  | .new ix => match res with | .new k => am_NL.any (fun e => e.1 == o && (e.2.1 == ix && e.2.2.1 * 64 + e.2.2.2.1 == k)) | _ => false
  | .newarray t => decide (res = .newarray t) && (decide (t = .int) || decide (t = .byte))
  | .anewarray ix => match res with | .anewarray k => am_AL.any (fun e => e.1 == o && (e.2.1 == ix && e.2.2.1 == k)) | _ => false
  | .invokevirtual ix => match res with
    | .invokevirtual k => am_ML.any (fun e => e.1 == o && (e.2.1 == ix && (e.2.2.2.1 == 0 && (e.2.2.2.2.1 == 0 && e.2.2.2.2.2.1 == k))))
    | .invokespecial k => am_SL.any (fun e => e.1 == o && (e.2.1 == ix && (e.2.2.1 == k && decide (k < 2))))
    | _ => false
  | .invokestatic ix => match res with
    | .invokevirtual k => am_ML.any (fun e => e.1 == o && (e.2.1 == ix && (e.2.2.2.1 == 1 && e.2.2.2.2.2.1 == k)))
    | .invokestatic k => am_CP.any (fun e => e.1 == o && (e.2.1 == ix && k == 0))
    | .invokespecial k => am_SL.any (fun e => e.1 == o && (e.2.1 == ix && (e.2.2.1 == k && decide (1 < k))))
    | _ => false
  | .invokespecial ix => match res with
    | .invokevirtual k => am_ML.any (fun e => e.1 == o && (e.2.1 == ix && (e.2.2.2.1 == 2 && e.2.2.2.2.2.1 == k)))
    | .pop => am_OI.any (fun e => e.1 == o && e.2.1 == ix)
    | _ => false
  | .iadd => decide (res = .iadd)
  | .isub => decide (res = .isub)
  | .imul => decide (res = .imul)
  | .irem => decide (res = .irem)
  | .iand => decide (res = .iand)
  | .ior => decide (res = .ior)
  | .ishl => decide (res = .ishl)
  | .ishr => decide (res = .ishr)
  | .iushr => decide (res = .iushr)
  | .i2l => decide (res = .i2l)
  | .i2b => decide (res = .i2b)
  | .i2s => decide (res = .i2s)
  | .ladd => decide (res = .ladd)
  | .lmul => decide (res = .lmul)
  | .lcmp => decide (res = .lcmp)
  | .dup => decide (res = .dup)
  | .dup2 => decide (res = .dup2)
  | .iaload => decide (res = .iaload)
  | .baload => decide (res = .baload)
  | .iastore => decide (res = .iastore)
  | .bastore => decide (res = .bastore)
  | .aaload => decide (res = .aaload)
  | .aastore => decide (res = .aastore)
  | .arraylength => decide (res = .arraylength)
  | .ireturn => decide (res = .ireturn)
  | .lreturn => decide (res = .lreturn)
  | .areturn => decide (res = .areturn)
  | .return_ => decide (res = .return_)
  | _ => false
/-- an instruction's length; 0: as it comes -/
def am_ln (raw : Instr) : Nat := match raw with
  | .bipush _ => 2
  | .ldc _ => 2
  | .iload _ => 2
  | .aload _ => 2
  | .lload _ => 2
  | .istore _ => 2
  | .astore _ => 2
  | .newarray _ => 2
  | .sipush _ => 3
  | .ldc_w _ => 3
  | .iinc _ _ => 3
  | .ifCond _ _ => 3
  | .if_icmp _ _ => 3
  | .goto _ => 3
  | .getfield _ => 3
  | .putfield _ => 3
  | .getstatic _ => 3
  | .new _ => 3
  | .anewarray _ => 3
  | .invokevirtual _ => 3
  | .invokestatic _ => 3
  | .invokespecial _ => 3
  | .tableswitch _ _ _ _ => 0
  | .lookupswitch _ _ => 0
  | _ => 1
def am_ce (y : Nat) (e : Nat × Nat × Instr) : Bool := match decode (am_ym y).1.2.1 e.1 with
  | .ok (raw, n) => n == e.2.1 && (am_ln raw == 0 || am_ln raw == n) && (am_rsv (am_ym y).2.1.1 e.1 (am_ym y).1.2.2.1 raw e.2.2 && (match raw with | .putfield _ => (match e.2.2 with | .putfield k => !((am_fin.getD (k / 256) []).getD (k / 4 % 64) true) || (k / 256 == (am_ym y).2.1.1 && decide (y < 10)) | _ => false) | _ => true))
  | _ => false
def am_chk (y : Nat) : Bool := (am_cd y).all (am_ce y)
