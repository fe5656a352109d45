section
/-! Tables, written by wip/whole/gen.py out of JAVAP.txt: kinds of cells, classes, methods, instructions, what the constant pools link. -/
def jx_ctl : List Nat := [1, 1, 1, 6, 6, 1, 2, 2, 2, 2, 2, 1, 1, 1, 1, 1, 6, 1, 1, 0, 1, 1, 1, 1, 1, 1, 1, 1, 1, 1, 1, 1, 1, 1, 1, 0, 0, 0, 0, 0, 1, 1, 1]
def jx_fll : List (Option (Nat × List (Option (Nat × Option Nat)))) := [some (0, [some (1, some 0), none, some (2, some 0), none, some (5, some 0), some (6, some 0), some (9, some 0), some (11, some 0), some (14, some 0)]), none, none, some (1, [some (4, none)]), none, none, some (2, [some (7, none), some (8, none)]), none, none, some (3, [some (10, none)]), none, some (4, [some (12, some 0), some (13, some 0), some (6, some 1)]), none, none, some (5, [some (15, some 0), some (17, some 0), none, none, none, some (18, some 0), none, some (9, some 1)]), none, none, none, none, none, some (6, [none, none, some (21, some 0), none, some (22, some 0), some (23, some 0), some (24, some 0), some (25, some 0), some (26, some 0), some (27, some 0), some (28, some 0), some (29, some 0), none, none, none, some (30, some 0), some (31, some 0), none, some (32, some 0)]), none, none, none, none, none, none, none, none, none, none, none, none, none, none, none, none, none, none, none, none, none, none]
def jx_arl : List (Option (Nat × Nat)) := [none, some (0, 80), none, none, some (0, 18), some (0, 44), none, some (0, 15), some (0, 4), none, some (0, 6), none, some (0, 44), some (0, 4), none, none, some (0, 40), some (1, 6), some (0, 80), none, none, some (0, 80), some (1, 1944), some (0, 15), some (1, 324), some (1, 324), some (0, 15), some (0, 5), some (0, 44), some (0, 4), some (1, 6), some (0, 240), some (0, 80), some (4, 1), none, none, none, none, none, none, none, none, none]
def jx_ral : List (Option (Nat × Nat × Nat)) := [none, none, some (2, 6, 3), none, none, none, none, none, none, none, none, none, none, none, none, some (3, 6, 16), none, none, none, none, none, none, none, none, none, none, none, none, none, none, none, none, none, none, none, none, none, none, none, none, none, none, none]
def jx_tvl : List (Option (String × String × List Nat)) := [none, none, none, none, none, none, none, none, none, none, none, none, none, none, none, none, none, none, none, none, none, none, none, none, none, none, none, none, none, none, none, none, none, none, none, none, none, none, none, none, some ("DotVault$Symbols", "POWERS", [1, 2, 4, 8, 3, 6, 12, 11, 5, 10, 7, 14, 15, 13, 9]), some ("DotVault$Symbols", "EXPONENTS", [0, 0, 1, 4, 2, 8, 5, 10, 3, 14, 9, 7, 6, 13, 11, 12]), some ("DotVault$Row", "DIVISOR", [7, 8, 12, 13])]
def jx_ct (k : Nat) : Nat := match jx_ctl[k]? with
  | some n => n
  | none => 0
def jx_fl (k : Nat) : Option (Nat × List (Option (Nat × Option Nat))) := match jx_fll[k]? with
  | some q => q
  | none => none
def jx_ar (k : Nat) : Option (Nat × Nat) := match jx_arl[k]? with
  | some q => q
  | none => none
def jx_ra (k : Nat) : Option (Nat × Nat × Nat) := match jx_ral[k]? with
  | some q => q
  | none => none
def jx_tv (k : Nat) : Option (String × String × List Nat) := match jx_tvl[k]? with
  | some q => q
  | none => none
def jx_ls : List (Nat × Nat) := [(0, 0), (1, 0), (2, 0), (3, 0), (3, 1), (3, 2), (3, 3), (3, 4), (3, 5), (4, 0), (4, 1), (4, 2), (4, 3), (4, 4), (4, 5), (5, 0), (6, 0), (6, 1), (7, 0), (7, 1), (8, 0), (8, 1), (9, 0), (9, 1), (10, 0), (10, 1), (11, 0), (12, 0), (13, 0), (14, 0), (15, 0), (16, 0), (16, 1), (16, 2), (16, 3), (16, 4), (16, 5), (17, 0), (18, 0), (20, 0), (21, 0), (22, 0), (23, 0), (24, 0), (25, 0), (26, 0), (27, 0), (28, 0), (29, 0), (30, 0), (31, 0), (32, 0), (33, 0)]
def jx_tl : List FieldType := [.int, .boolean, .object "DotVault$Sheet", .array .int, .long]
def jx_cnl : List String := ["DotVault", "DotVault$Sheet", "DotVault$Row", "DotVault$Column", "DotVault$Scan", "DotVault$Reader", "DotVaultModel", "DotVault$Symbols", "DotVaultLaw"]
def jx_cn (o : Nat) : String := jx_cnl.getD o ""
def jx_T0 : u_T := fun k => match k with
  | 0 => ("DotVault", "document", "[I", true)
  | 1 => ("DotVault", "length", "I", false)
  | 2 => ("DotVault", "sheets", "[LDotVault$Sheet;", true)
  | 3 => ("DotVault", "printed", "I", false)
  | 4 => ("DotVault", "data", "[I", true)
  | 5 => ("DotVault", "word", "LDotVault$Row;", true)
  | 6 => ("DotVault", "column", "LDotVault$Column;", true)
  | 7 => ("DotVault", "scan", "LDotVault$Scan;", true)
  | _ => ("DotVault", "reader", "LDotVault$Reader;", true)
def jx_T1 : u_T := fun k => match k with
  | _ => ("DotVault$Sheet", "lines", "[I", true)
def jx_T2 : u_T := fun k => match k with
  | 0 => ("DotVault$Row", "symbols", "[I", true)
  | _ => ("DotVault$Row", "sums", "[I", true)
def jx_T3 : u_T := fun k => match k with
  | _ => ("DotVault$Column", "symbols", "[I", true)
def jx_T4 : u_T := fun k => match k with
  | 0 => ("DotVault$Scan", "data", "[I", true)
  | 1 => ("DotVault$Scan", "rowErrors", "[I", true)
  | _ => ("DotVault$Scan", "row", "LDotVault$Row;", true)
def jx_T5 : u_T := fun k => match k with
  | 0 => ("DotVault$Reader", "payloads", "[[I", true)
  | 1 => ("DotVault$Reader", "isKept", "[Z", true)
  | 2 => ("DotVault$Reader", "kept", "I", false)
  | 3 => ("DotVault$Reader", "needed", "I", false)
  | 4 => ("DotVault$Reader", "length", "I", false)
  | 5 => ("DotVault$Reader", "rebuilt", "[I", true)
  | 6 => ("DotVault$Reader", "rebuiltLength", "I", false)
  | _ => ("DotVault$Reader", "column", "LDotVault$Column;", true)
def jx_T6 : u_T := fun k => match k with
  | 0 => ("DotVaultModel", "thrown", "I", false)
  | 1 => ("DotVaultModel", "length", "I", false)
  | 2 => ("DotVaultModel", "document", "[I", false)
  | 3 => ("DotVaultModel", "pages", "I", false)
  | 4 => ("DotVaultModel", "dots", "[Z", false)
  | 5 => ("DotVaultModel", "power", "[I", false)
  | 6 => ("DotVaultModel", "seen", "[Z", false)
  | 7 => ("DotVaultModel", "other", "[Z", false)
  | 8 => ("DotVaultModel", "row", "[I", false)
  | 9 => ("DotVaultModel", "sums", "[I", false)
  | 10 => ("DotVaultModel", "data", "[I", false)
  | 11 => ("DotVaultModel", "errors", "[I", false)
  | 12 => ("DotVaultModel", "kept", "I", false)
  | 13 => ("DotVaultModel", "keptN", "I", false)
  | 14 => ("DotVaultModel", "keptLength", "I", false)
  | 15 => ("DotVaultModel", "has", "[Z", false)
  | 16 => ("DotVaultModel", "payloads", "[I", false)
  | 17 => ("DotVaultModel", "outLength", "I", false)
  | _ => ("DotVaultModel", "outBytes", "[I", false)
def jx_cl : List vw_C := [("DotVault", jx_T0, 9), ("DotVault$Sheet", jx_T1, 1), ("DotVault$Row", jx_T2, 2), ("DotVault$Column", jx_T3, 1), ("DotVault$Scan", jx_T4, 3), ("DotVault$Reader", jx_T5, 8), ("DotVaultModel", jx_T6, 19)]
-- methods: 112
--   0 V DotVault.documentSymbol (II)I depth 0 locals 0 maxL 4
--   1 V DotVault.hasPage (I)Z depth 0 locals 0 maxL 2
--   2 V DotVault.load (I)I depth 0 locals 0 maxL 2
--   3 V DotVault.wipe ()I depth 0 locals 0 maxL 2
--   4 Sheet DotVault$Sheet.blockX (I)I depth 0 locals 0 maxL 1
--   5 Sheet DotVault$Sheet.blockY (I)I depth 0 locals 0 maxL 1
--   6 Sheet DotVault$Sheet.invert (II)V depth 0 locals 0 maxL 3
--   7 Sheet DotVault$Sheet.isBlack (II)Z depth 0 locals 0 maxL 3
--   8 Sheet DotVault$Sheet.isFrameBlack (II)Z depth 0 locals 0 maxL 2
--   9 Sheet DotVault$Sheet.whiten ()V depth 0 locals 0 maxL 2
--   10 Row DotVault$Row.isWord ()Z depth 0 locals 0 maxL 1
--   11 Col DotVault$Column.get (I)I depth 0 locals 0 maxL 2
--   12 Col DotVault$Column.plainSum (I)I depth 0 locals 0 maxL 4
--   13 Col DotVault$Column.set (II)V depth 0 locals 0 maxL 3
--   14 Scan DotVault$Scan.errorsOf (I)I depth 0 locals 0 maxL 2
--   15 Scan DotVault$Scan.forgetErrors ()V depth 0 locals 0 maxL 2
--   16 Scan DotVault$Scan.length ()I depth 0 locals 0 maxL 1
--   17 Scan DotVault$Scan.needed ()I depth 0 locals 0 maxL 1
--   18 Scan DotVault$Scan.number ()I depth 0 locals 0 maxL 1
--   19 Scan DotVault$Scan.payload (I)I depth 0 locals 0 maxL 2
--   20 Rd DotVault$Reader.forget ()I depth 0 locals 0 maxL 3
--   21 Rd DotVault$Reader.hasEnough ()Z depth 0 locals 0 maxL 1
--   22 Rd DotVault$Reader.lacking ()I depth 0 locals 0 maxL 1
--   23 Rd DotVault$Reader.nextLost (I)I depth 0 locals 0 maxL 3
--   24 Rd DotVault$Reader.rebuiltByte (I)I depth 0 locals 0 maxL 2
--   25 Rd DotVault$Reader.rebuiltLength ()I depth 0 locals 0 maxL 1
--   26 M DotVaultModel.bit (II)I depth 0 locals 0 maxL 3
--   27 M DotVaultModel.errors (I)I depth 0 locals 0 maxL 2
--   28 M DotVaultModel.frame (II)Z depth 0 locals 0 maxL 3
--   29 M DotVaultModel.keep ()I depth 0 locals 0 maxL 5
--   30 M DotVaultModel.load (I)I depth 0 locals 0 maxL 2
--   31 M DotVaultModel.missing ()I depth 0 locals 0 maxL 1
--   32 M DotVaultModel.noDot (III)Z depth 0 locals 0 maxL 4
--   33 M DotVaultModel.of (I)I depth 0 locals 0 maxL 2
--   34 M DotVaultModel.out (I)I depth 0 locals 0 maxL 2
--   35 M DotVaultModel.product (II)I depth 0 locals 0 maxL 5
--   36 M DotVaultModel.reset ()I depth 0 locals 0 maxL 3
--   37 M DotVaultModel.symbolAt (IIIII)I depth 0 locals 0 maxL 6
--   38 M DotVaultModel.symbolOf (II)I depth 0 locals 0 maxL 4
--   39 M DotVaultModel.thrown ()I depth 0 locals 0 maxL 1
--   40 M DotVaultModel.turn ()V depth 0 locals 0 maxL 2
--   41 M DotVaultModel.wipe ()I depth 0 locals 0 maxL 2
--   42 Sy DotVault$Symbols.power (I)I depth 0 locals 0 maxL 1
--   43 Sy DotVault$Symbols.product (II)I depth 0 locals 0 maxL 2
--   44 Sy DotVault$Symbols.quotient (II)I depth 0 locals 0 maxL 2
--   45 V DotVault.errors (I)I depth 1 locals 21 maxL 2
--   46 V DotVault.hasDot (III)Z depth 1 locals 21 maxL 4
--   47 V DotVault.missing ()I depth 1 locals 20 maxL 1
--   48 V DotVault.out (I)I depth 1 locals 21 maxL 2
--   49 V DotVault.reset ()I depth 1 locals 22 maxL 1
--   50 Sheet DotVault$Sheet.isBlackTurned (III)Z depth 1 locals 22 maxL 4
--   51 Sheet DotVault$Sheet.paint (IIIIZ)I depth 1 locals 22 maxL 9
--   52 Row DotVault$Row.areSumsOf (IIII)Z depth 1 locals 21 maxL 8
--   53 Row DotVault$Row.complete ()V depth 1 locals 21 maxL 4
--   54 Row DotVault$Row.findSums ()V depth 1 locals 21 maxL 4
--   55 Row DotVault$Row.giveData ([II)V depth 1 locals 48 maxL 3
--   56 Row DotVault$Row.mend (II)V depth 1 locals 21 maxL 3
--   57 Row DotVault$Row.takeData ([II)V depth 1 locals 48 maxL 3
--   58 Col DotVault$Column.restoreByPlain (II)V depth 1 locals 23 maxL 3
--   59 Col DotVault$Column.weightedSum (I)I depth 1 locals 21 maxL 4
--   60 Scan DotVault$Scan.tellsPage ()Z depth 1 locals 20 maxL 2
--   61 Rd DotVault$Reader.fillColumn (I)V depth 1 locals 22 maxL 3
--   62 Rd DotVault$Reader.store (LDotVault$Scan;)V depth 1 locals 21 maxL 4
--   63 Rd DotVault$Reader.storeSymbols (I)V depth 1 locals 21 maxL 4
--   64 M DotVaultModel.blot (IIIIIZ)I depth 1 locals 23 maxL 10
--   65 M DotVaultModel.check ()V depth 1 locals 24 maxL 7
--   66 M DotVaultModel.dot (III)Z depth 1 locals 23 maxL 4
--   67 M DotVaultModel.fits (IIII)Z depth 1 locals 24 maxL 7
--   68 M DotVaultModel.flip (III)V depth 1 locals 23 maxL 4
--   69 M DotVaultModel.frameErrors ()I depth 1 locals 22 maxL 6
--   70 M DotVaultModel.isRight (IIII)Z depth 1 locals 25 maxL 9
--   71 M DotVaultModel.isRightOne (III)Z depth 1 locals 25 maxL 7
--   72 M DotVaultModel.payload (III)I depth 1 locals 24 maxL 6
--   73 M DotVaultModel.quotient (II)I depth 1 locals 24 maxL 4
--   74 M DotVaultModel.sumAt (I)I depth 1 locals 24 maxL 4
--   75 Sy DotVault$Symbols.secondOfTwo (IIII)I depth 1 locals 21 maxL 4
--   76 V DotVault.blot (IIIIIZ)I depth 2 locals 50 maxL 9
--   77 V DotVault.dot (III)Z depth 2 locals 44 maxL 4
--   78 V DotVault.flip (III)V depth 2 locals 44 maxL 4
--   79 Sheet DotVault$Sheet.drawFrameDot (II)V depth 2 locals 50 maxL 3
--   80 Sheet DotVault$Sheet.drawSymbol (II)V depth 2 locals 50 maxL 6
--   81 Sheet DotVault$Sheet.frameFault (III)I depth 2 locals 45 maxL 4
--   82 Sheet DotVault$Sheet.symbolAt (II)I depth 2 locals 45 maxL 7
--   83 Row DotVault$Row.correctOne ()Z depth 2 locals 48 maxL 2
--   84 Row DotVault$Row.correctTwo ()Z depth 2 locals 48 maxL 5
--   85 Col DotVault$Column.addSpares (I)V depth 2 locals 44 maxL 2
--   86 Col DotVault$Column.restoreByWeighted (II)V depth 2 locals 44 maxL 4
--   87 Col DotVault$Column.restoreTwo (III)V depth 2 locals 44 maxL 6
--   88 Rd DotVault$Reader.keep (LDotVault$Scan;)Z depth 2 locals 44 maxL 2
--   89 M DotVaultModel.dataOf (III)I depth 2 locals 49 maxL 4
--   90 M DotVaultModel.isWord ()Z depth 2 locals 47 maxL 1
--   91 M DotVaultModel.rebuild ()I depth 2 locals 53 maxL 9
--   92 V DotVault.writeData (II)V depth 3 locals 65 maxL 5
--   93 Sheet DotVault$Sheet.drawFrame ()V depth 3 locals 72 maxL 2
--   94 Sheet DotVault$Sheet.frameFaults (I)I depth 3 locals 68 maxL 4
--   95 Row DotVault$Row.correct ()I depth 3 locals 72 maxL 1
--   96 Row DotVault$Row.draw (LDotVault$Sheet;I)V depth 3 locals 75 maxL 4
--   97 Row DotVault$Row.lift (LDotVault$Sheet;II)V depth 3 locals 71 maxL 5
--   98 Rd DotVault$Reader.restoreLost (II)V depth 3 locals 69 maxL 3
--   99 M DotVaultModel.correct ()I depth 3 locals 67 maxL 5
--   100 M DotVaultModel.printPage (II)V depth 3 locals 72 maxL 7
--   101 V DotVault.drawSheet (LDotVault$Sheet;)V depth 4 locals 98 maxL 3
--   102 Scan DotVault$Scan.readRows (LDotVault$Sheet;I)Z depth 4 locals 95 maxL 5
--   103 Scan DotVault$Scan.uprightTurns (LDotVault$Sheet;I)I depth 4 locals 91 maxL 7
--   104 Rd DotVault$Reader.putTogether ()I depth 4 locals 91 maxL 4
--   105 M DotVaultModel.print ()I depth 4 locals 98 maxL 3
--   106 M DotVaultModel.readRows ()Z depth 4 locals 91 maxL 6
--   107 V DotVault.print ()I depth 5 locals 120 maxL 3
--   108 V DotVault.rebuild ()I depth 5 locals 114 maxL 1
--   109 Scan DotVault$Scan.read (LDotVault$Sheet;I)Z depth 5 locals 119 maxL 4
--   110 M DotVaultModel.feed (II)I depth 5 locals 116 maxL 7
--   111 V DotVault.feed (II)I depth 6 locals 142 maxL 3
--   112 L DotVaultLaw.load (LDotVault;I[J)I depth 7 locals 103 maxL 4
--   113 L DotVaultLaw.print (LDotVault;[J)I depth 7 locals 142 maxL 3
--   114 L DotVaultLaw.dot (LDotVault;III[J)I depth 7 locals 105 maxL 6
--   115 L DotVaultLaw.blot (LDotVault;IIIIIZ[J)I depth 7 locals 110 maxL 9
--   116 L DotVaultLaw.flip (LDotVault;III)I depth 7 locals 105 maxL 5
--   117 L DotVaultLaw.feed (LDotVault;II[J)I depth 7 locals 164 maxL 5
--   118 L DotVaultLaw.errors (LDotVault;I[J)I depth 7 locals 103 maxL 4
--   119 L DotVaultLaw.rebuild (LDotVault;[J)I depth 7 locals 134 maxL 3
--   120 L DotVaultLaw.out (LDotVault;I[J)I depth 7 locals 103 maxL 4
--   121 L DotVaultLaw.law ([I)Z depth 10 locals 378 maxL 7
def jx_nn : Nat := 112
def jx_nt : Nat := 122
def jx_owl : List Nat := [0, 0, 0, 0, 1, 1, 1, 1, 1, 1, 2, 3, 3, 3, 4, 4, 4, 4, 4, 4, 5, 5, 5, 5, 5, 5, 6, 6, 6, 6, 6, 6, 6, 6, 6, 6, 6, 6, 6, 6, 6, 6, 7, 7, 7, 0, 0, 0, 0, 0, 1, 1, 2, 2, 2, 2, 2, 2, 3, 3, 4, 5, 5, 5, 6, 6, 6, 6, 6, 6, 6, 6, 6, 6, 6, 7, 0, 0, 0, 1, 1, 1, 1, 2, 2, 3, 3, 3, 5, 6, 6, 6, 0, 1, 1, 2, 2, 2, 5, 6, 6, 0, 4, 4, 5, 6, 6, 0, 0, 4, 6, 0, 8, 8, 8, 8, 8, 8, 8, 8, 8, 8]
def jx_ow (κ : Nat) : Nat := jx_owl.getD κ 0
def jx_mnl : List (String × String) := [("documentSymbol", "(II)I"), ("hasPage", "(I)Z"), ("load", "(I)I"), ("wipe", "()I"), ("blockX", "(I)I"), ("blockY", "(I)I"), ("invert", "(II)V"), ("isBlack", "(II)Z"), ("isFrameBlack", "(II)Z"), ("whiten", "()V"), ("isWord", "()Z"), ("get", "(I)I"), ("plainSum", "(I)I"), ("set", "(II)V"), ("errorsOf", "(I)I"), ("forgetErrors", "()V"), ("length", "()I"), ("needed", "()I"), ("number", "()I"), ("payload", "(I)I"), ("forget", "()I"), ("hasEnough", "()Z"), ("lacking", "()I"), ("nextLost", "(I)I"), ("rebuiltByte", "(I)I"), ("rebuiltLength", "()I"), ("bit", "(II)I"), ("errors", "(I)I"), ("frame", "(II)Z"), ("keep", "()I"), ("load", "(I)I"), ("missing", "()I"), ("noDot", "(III)Z"), ("of", "(I)I"), ("out", "(I)I"), ("product", "(II)I"), ("reset", "()I"), ("symbolAt", "(IIIII)I"), ("symbolOf", "(II)I"), ("thrown", "()I"), ("turn", "()V"), ("wipe", "()I"), ("power", "(I)I"), ("product", "(II)I"), ("quotient", "(II)I"), ("errors", "(I)I"), ("hasDot", "(III)Z"), ("missing", "()I"), ("out", "(I)I"), ("reset", "()I"), ("isBlackTurned", "(III)Z"), ("paint", "(IIIIZ)I"), ("areSumsOf", "(IIII)Z"), ("complete", "()V"), ("findSums", "()V"), ("giveData", "([II)V"), ("mend", "(II)V"), ("takeData", "([II)V"), ("restoreByPlain", "(II)V"), ("weightedSum", "(I)I"), ("tellsPage", "()Z"), ("fillColumn", "(I)V"), ("store", "(LDotVault$Scan;)V"), ("storeSymbols", "(I)V"), ("blot", "(IIIIIZ)I"), ("check", "()V"), ("dot", "(III)Z"), ("fits", "(IIII)Z"), ("flip", "(III)V"), ("frameErrors", "()I"), ("isRight", "(IIII)Z"), ("isRightOne", "(III)Z"), ("payload", "(III)I"), ("quotient", "(II)I"), ("sumAt", "(I)I"), ("secondOfTwo", "(IIII)I"), ("blot", "(IIIIIZ)I"), ("dot", "(III)Z"), ("flip", "(III)V"), ("drawFrameDot", "(II)V"), ("drawSymbol", "(II)V"), ("frameFault", "(III)I"), ("symbolAt", "(II)I"), ("correctOne", "()Z"), ("correctTwo", "()Z"), ("addSpares", "(I)V"), ("restoreByWeighted", "(II)V"), ("restoreTwo", "(III)V"), ("keep", "(LDotVault$Scan;)Z"), ("dataOf", "(III)I"), ("isWord", "()Z"), ("rebuild", "()I"), ("writeData", "(II)V"), ("drawFrame", "()V"), ("frameFaults", "(I)I"), ("correct", "()I"), ("draw", "(LDotVault$Sheet;I)V"), ("lift", "(LDotVault$Sheet;II)V"), ("restoreLost", "(II)V"), ("correct", "()I"), ("printPage", "(II)V"), ("drawSheet", "(LDotVault$Sheet;)V"), ("readRows", "(LDotVault$Sheet;I)Z"), ("uprightTurns", "(LDotVault$Sheet;I)I"), ("putTogether", "()I"), ("print", "()I"), ("readRows", "()Z"), ("print", "()I"), ("rebuild", "()I"), ("read", "(LDotVault$Sheet;I)Z"), ("feed", "(II)I"), ("feed", "(II)I"), ("load", "(LDotVault;I[J)I"), ("print", "(LDotVault;[J)I"), ("dot", "(LDotVault;III[J)I"), ("blot", "(LDotVault;IIIIIZ[J)I"), ("flip", "(LDotVault;III)I"), ("feed", "(LDotVault;II[J)I"), ("errors", "(LDotVault;I[J)I"), ("rebuild", "(LDotVault;[J)I"), ("out", "(LDotVault;I[J)I"), ("law", "([I)Z")]
def jx_mn (κ : Nat) : String × String := jx_mnl.getD κ ("", "")
def jx_nm (κ : Nat) : MethodName := ⟨jx_cn (jx_ow κ), (jx_mn κ).1, (jx_mn κ).2⟩
def jx_cdl : List ByteArray := [prog_1_method_17_code, prog_1_method_14_code, prog_1_method_2_code, prog_1_method_3_code, prog_6_method_14_code, prog_6_method_15_code, prog_6_method_3_code, prog_6_method_2_code, prog_6_method_13_code, prog_6_method_5_code, prog_4_method_9_code, prog_2_method_2_code, prog_2_method_8_code, prog_2_method_3_code, prog_5_method_6_code, prog_5_method_9_code, prog_5_method_4_code, prog_5_method_3_code, prog_5_method_2_code, prog_5_method_5_code, prog_3_method_8_code, prog_3_method_6_code, prog_3_method_5_code, prog_3_method_10_code, prog_3_method_3_code, prog_3_method_2_code, prog_9_method_25_code, prog_9_method_29_code, prog_9_method_11_code, prog_9_method_27_code, prog_9_method_6_code, prog_9_method_30_code, prog_9_method_15_code, prog_9_method_4_code, prog_9_method_35_code, prog_9_method_3_code, prog_9_method_36_code, prog_9_method_31_code, prog_9_method_8_code, prog_9_method_2_code, prog_9_method_19_code, prog_9_method_7_code, prog_7_method_2_code, prog_7_method_3_code, prog_7_method_4_code, prog_1_method_9_code, prog_1_method_15_code, prog_1_method_10_code, prog_1_method_12_code, prog_1_method_13_code, prog_6_method_12_code, prog_6_method_4_code, prog_4_method_12_code, prog_4_method_6_code, prog_4_method_8_code, prog_4_method_3_code, prog_4_method_13_code, prog_4_method_2_code, prog_2_method_5_code, prog_2_method_9_code, prog_5_method_11_code, prog_3_method_11_code, prog_3_method_9_code, prog_3_method_13_code, prog_9_method_17_code, prog_9_method_10_code, prog_9_method_16_code, prog_9_method_23_code, prog_9_method_18_code, prog_9_method_20_code, prog_9_method_32_code, prog_9_method_33_code, prog_9_method_9_code, prog_9_method_5_code, prog_9_method_21_code, prog_7_method_5_code, prog_1_method_6_code, prog_1_method_5_code, prog_1_method_7_code, prog_6_method_10_code, prog_6_method_7_code, prog_6_method_11_code, prog_6_method_8_code, prog_4_method_10_code, prog_4_method_11_code, prog_2_method_4_code, prog_2_method_6_code, prog_2_method_7_code, prog_3_method_4_code, prog_9_method_12_code, prog_9_method_22_code, prog_9_method_34_code, prog_1_method_16_code, prog_6_method_6_code, prog_6_method_9_code, prog_4_method_7_code, prog_4_method_4_code, prog_4_method_5_code, prog_3_method_12_code, prog_9_method_24_code, prog_9_method_13_code, prog_1_method_18_code, prog_5_method_10_code, prog_5_method_8_code, prog_3_method_7_code, prog_9_method_14_code, prog_9_method_26_code, prog_1_method_4_code, prog_1_method_11_code, prog_5_method_7_code, prog_9_method_28_code, prog_1_method_8_code, method_3_code, method_4_code, method_5_code, method_6_code, method_7_code, method_8_code, method_9_code, method_10_code, method_11_code, code]
def jx_cd (κ : Nat) : ByteArray := jx_cdl.getD κ ByteArray.empty
def jx_mxl : List Nat := [4, 2, 2, 2, 1, 1, 3, 3, 2, 2, 1, 2, 4, 3, 2, 2, 1, 1, 1, 2, 3, 1, 1, 3, 2, 1, 3, 2, 3, 5, 2, 1, 4, 2, 2, 5, 3, 6, 4, 1, 2, 2, 1, 2, 2, 2, 4, 1, 2, 1, 4, 9, 8, 4, 4, 3, 3, 3, 3, 4, 2, 3, 4, 4, 10, 7, 4, 7, 4, 6, 9, 7, 6, 4, 4, 4, 9, 4, 4, 3, 6, 4, 7, 2, 5, 2, 4, 6, 2, 4, 1, 9, 5, 2, 4, 1, 4, 5, 3, 5, 7, 3, 5, 7, 4, 3, 6, 3, 1, 4, 7, 3, 4, 3, 6, 9, 5, 5, 4, 3, 4, 7]
def jx_mx (κ : Nat) : Nat := jx_mxl.getD κ 0
def jx_rtl : List (Option FieldType) := [some .int, some .boolean, some .int, some .int, some .int, some .int, none, some .boolean, some .boolean, none, some .boolean, some .int, some .int, none, some .int, none, some .int, some .int, some .int, some .int, some .int, some .boolean, some .int, some .int, some .int, some .int, some .int, some .int, some .boolean, some .int, some .int, some .int, some .boolean, some .int, some .int, some .int, some .int, some .int, some .int, some .int, none, some .int, some .int, some .int, some .int, some .int, some .boolean, some .int, some .int, some .int, some .boolean, some .int, some .boolean, none, none, none, none, none, none, some .int, some .boolean, none, none, none, some .int, none, some .boolean, some .boolean, none, some .int, some .boolean, some .boolean, some .int, some .int, some .int, some .int, some .int, some .boolean, none, none, none, some .int, some .int, some .boolean, some .boolean, none, none, none, some .boolean, some .int, some .boolean, some .int, none, none, some .int, some .int, none, none, none, some .int, none, none, some .boolean, some .int, some .int, some .int, some .boolean, some .int, some .int, some .boolean, some .int, some .int, some .int, some .int, some .int, some .int, some .int, some .int, some .int, some .int, some .int, some .boolean]
def jx_rt (κ : Nat) : Option FieldType := jx_rtl.getD κ none
def jx_npl : List Nat := [3, 2, 2, 1, 1, 1, 3, 3, 2, 1, 1, 2, 2, 3, 2, 1, 1, 1, 1, 2, 1, 1, 1, 2, 2, 1, 3, 2, 3, 1, 2, 1, 4, 2, 2, 3, 1, 6, 3, 1, 1, 1, 1, 2, 2, 2, 4, 1, 2, 1, 4, 6, 5, 1, 1, 3, 3, 3, 3, 2, 1, 2, 2, 2, 7, 1, 4, 5, 4, 1, 5, 4, 4, 3, 2, 4, 7, 4, 4, 3, 3, 4, 3, 1, 1, 2, 3, 4, 2, 4, 1, 1, 3, 1, 2, 1, 3, 4, 3, 1, 3, 2, 3, 2, 1, 1, 1, 1, 1, 3, 3, 3, 3, 2, 5, 8, 4, 4, 3, 2, 3, 1]
def jx_np (κ : Nat) : Nat := jx_npl.getD κ 0
def jx_isl : List Bool := [false, false, false, false, true, true, false, false, true, false, false, false, false, false, false, false, false, false, false, false, false, false, false, false, false, false, false, false, false, false, false, false, false, false, false, false, false, false, false, false, false, false, true, true, true, false, false, false, false, false, false, false, false, false, false, false, false, false, false, false, false, false, false, false, false, false, false, false, false, false, false, false, false, false, false, true, false, false, false, false, false, false, false, false, false, false, false, false, false, false, false, false, false, false, false, false, false, false, false, false, false, false, false, true, false, false, false, false, false, false, false, false, true, true, true, true, true, true, true, true, true, true]
def jx_is (κ : Nat) : Bool := jx_isl.getD κ false
def jx_dpl : List Nat := [0, 0, 0, 0, 0, 0, 0, 0, 0, 0, 0, 0, 0, 0, 0, 0, 0, 0, 0, 0, 0, 0, 0, 0, 0, 0, 0, 0, 0, 0, 0, 0, 0, 0, 0, 0, 0, 0, 0, 0, 0, 0, 0, 0, 0, 1, 1, 1, 1, 1, 1, 1, 1, 1, 1, 1, 1, 1, 1, 1, 1, 1, 1, 1, 1, 1, 1, 1, 1, 1, 1, 1, 1, 1, 1, 1, 2, 2, 2, 2, 2, 2, 2, 2, 2, 2, 2, 2, 2, 2, 2, 2, 3, 3, 3, 3, 3, 3, 3, 3, 3, 4, 4, 4, 4, 4, 4, 5, 5, 5, 5, 6, 7, 7, 7, 7, 7, 7, 7, 7, 7, 10]
def jx_dp (κ : Nat) : Nat := jx_dpl.getD κ 0
def jx_lcl : List Nat := [0, 0, 0, 0, 0, 0, 0, 0, 0, 0, 0, 0, 0, 0, 0, 0, 0, 0, 0, 0, 0, 0, 0, 0, 0, 0, 0, 0, 0, 0, 0, 0, 0, 0, 0, 0, 0, 0, 0, 0, 0, 0, 0, 0, 0, 21, 21, 20, 21, 22, 22, 22, 21, 21, 21, 48, 21, 48, 23, 21, 20, 22, 21, 21, 23, 24, 23, 24, 23, 22, 25, 25, 24, 24, 24, 21, 50, 44, 44, 50, 50, 45, 45, 48, 48, 44, 44, 44, 44, 49, 47, 53, 65, 72, 68, 72, 75, 71, 69, 67, 72, 98, 95, 91, 91, 98, 91, 120, 114, 119, 116, 142, 103, 142, 105, 110, 105, 164, 103, 134, 103, 378]
def jx_lc (κ : Nat) : Nat := jx_lcl.getD κ 0
def jx_b0 : List (Nat × Instr × Nat × List Nat) := [(0, .iload_n 1, 1, []), (1, .bipush (20), 3, []), (3, .imul, 4, []), (4, .iload_n 2, 5, []), (5, .iconst (2), 6, []), (6, .idiv, 7, []), (7, .iadd, 8, []), (8, .istore_n 3, 9, []), (9, .iload_n 3, 10, []), (10, .aload_n 0, 11, []), (11, .getfield 13, 14, []), (14, .if_icmp .lt (5), 17, [19]), (17, .iconst (0), 18, []), (18, .ireturn, 19, []), (19, .iload_n 2, 20, []), (20, .iconst (2), 21, []), (21, .irem, 22, []), (22, .ifCond .ne (15), 25, [37]), (25, .aload_n 0, 26, []), (26, .getfield 9, 29, []), (29, .iload_n 3, 30, []), (30, .iaload, 31, []), (31, .bipush (16), 33, []), (33, .irem, 34, []), (34, .goto (12), 37, [46]), (37, .aload_n 0, 38, []), (38, .getfield 9, 41, []), (41, .iload_n 3, 42, []), (42, .iaload, 43, []), (43, .bipush (16), 45, []), (45, .idiv, 46, []), (46, .ireturn, 47, [])]
def jx_b1 : List (Nat × Instr × Nat × List Nat) := [(0, .iload_n 1, 1, []), (1, .ifCond .lt (15), 4, [16]), (4, .iload_n 1, 5, []), (5, .aload_n 0, 6, []), (6, .getfield 23, 9, []), (9, .if_icmp .ge (7), 12, [16]), (12, .iconst (1), 13, []), (13, .goto (4), 16, [17]), (16, .iconst (0), 17, []), (17, .ireturn, 18, [])]
def jx_b2 : List (Nat × Instr × Nat × List Nat) := [(0, .iload_n 1, 1, []), (1, .ifCond .lt (10), 4, [11]), (4, .iload_n 1, 5, []), (5, .sipush (255), 8, []), (8, .if_icmp .le (13), 11, [21]), (11, .new 58, 14, []), (14, .dup, 15, []), (15, .ldc 60, 17, []), (17, .invokespecial 62, 20, []), (20, .athrow, 21, []), (21, .aload_n 0, 22, []), (22, .getfield 13, 25, []), (25, .bipush (80), 27, []), (27, .if_icmp .lt (13), 30, [40]), (30, .new 65, 33, []), (33, .dup, 34, []), (34, .ldc 67, 36, []), (36, .invokespecial 69, 39, []), (39, .athrow, 40, []), (40, .aload_n 0, 41, []), (41, .getfield 9, 44, []), (44, .aload_n 0, 45, []), (45, .getfield 13, 48, []), (48, .iload_n 1, 49, []), (49, .iastore, 50, []), (50, .aload_n 0, 51, []), (51, .dup, 52, []), (52, .getfield 13, 55, []), (55, .iconst (1), 56, []), (56, .iadd, 57, []), (57, .putfield 13, 60, []), (60, .aload_n 0, 61, []), (61, .getfield 13, 64, []), (64, .ireturn, 65, [])]
def jx_b3 : List (Nat × Instr × Nat × List Nat) := [(0, .aload_n 0, 1, []), (1, .getfield 13, 4, []), (4, .istore_n 1, 5, []), (5, .aload_n 0, 6, []), (6, .iconst (0), 7, []), (7, .putfield 13, 10, []), (10, .iload_n 1, 11, []), (11, .ireturn, 12, [])]
def jx_b4 : List (Nat × Instr × Nat × List Nat) := [(0, .iconst (1), 1, []), (1, .iconst (2), 2, []), (2, .iload_n 0, 3, []), (3, .bipush (8), 5, []), (5, .irem, 6, []), (6, .imul, 7, []), (7, .iadd, 8, []), (8, .ireturn, 9, [])]
def jx_b5 : List (Nat × Instr × Nat × List Nat) := [(0, .iconst (1), 1, []), (1, .iconst (2), 2, []), (2, .iload_n 0, 3, []), (3, .bipush (8), 5, []), (5, .idiv, 6, []), (6, .imul, 7, []), (7, .iadd, 8, []), (8, .ireturn, 9, [])]
def jx_b6 : List (Nat × Instr × Nat × List Nat) := [(0, .aload_n 0, 1, []), (1, .getfield 9, 4, []), (4, .iload_n 2, 5, []), (5, .dup2, 6, []), (6, .iaload, 7, []), (7, .iconst (1), 8, []), (8, .iload_n 1, 9, []), (9, .ishl, 10, []), (10, .ixor, 11, []), (11, .iastore, 12, []), (12, .return_, 13, [])]
def jx_b7 : List (Nat × Instr × Nat × List Nat) := [(0, .aload_n 0, 1, []), (1, .getfield 9, 4, []), (4, .iload_n 2, 5, []), (5, .iaload, 6, []), (6, .iload_n 1, 7, []), (7, .ishr, 8, []), (8, .iconst (1), 9, []), (9, .iand, 10, []), (10, .iconst (1), 11, []), (11, .if_icmp .ne (7), 14, [18]), (14, .iconst (1), 15, []), (15, .goto (4), 18, [19]), (18, .iconst (0), 19, []), (19, .ireturn, 20, [])]
def jx_b8 : List (Nat × Instr × Nat × List Nat) := [(0, .iload_n 0, 1, []), (1, .ifCond .eq (31), 4, [32]), (4, .iload_n 1, 5, []), (5, .ifCond .eq (27), 8, [32]), (8, .iload_n 0, 9, []), (9, .bipush (17), 11, []), (11, .if_icmp .ne (9), 14, [20]), (14, .iload_n 1, 15, []), (15, .iconst (2), 16, []), (16, .irem, 17, []), (17, .ifCond .eq (15), 20, [32]), (20, .iload_n 1, 21, []), (21, .bipush (17), 23, []), (23, .if_icmp .ne (13), 26, [36]), (26, .iload_n 0, 27, []), (27, .iconst (2), 28, []), (28, .irem, 29, []), (29, .ifCond .ne (7), 32, [36]), (32, .iconst (1), 33, []), (33, .goto (4), 36, [37]), (36, .iconst (0), 37, []), (37, .ireturn, 38, [])]
def jx_b9 : List (Nat × Instr × Nat × List Nat) := [(0, .iconst (0), 1, []), (1, .istore_n 1, 2, []), (2, .iload_n 1, 3, []), (3, .bipush (18), 5, []), (5, .if_icmp .ge (16), 8, [21]), (8, .aload_n 0, 9, []), (9, .getfield 9, 12, []), (12, .iload_n 1, 13, []), (13, .iconst (0), 14, []), (14, .iastore, 15, []), (15, .iinc 1 (1), 18, []), (18, .goto (-16), 21, [2]), (21, .return_, 22, [])]
def jx_b10 : List (Nat × Instr × Nat × List Nat) := [(0, .aload_n 0, 1, []), (1, .getfield 15, 4, []), (4, .iconst (0), 5, []), (5, .iaload, 6, []), (6, .aload_n 0, 7, []), (7, .getfield 15, 10, []), (10, .iconst (1), 11, []), (11, .iaload, 12, []), (12, .ior, 13, []), (13, .aload_n 0, 14, []), (14, .getfield 15, 17, []), (17, .iconst (2), 18, []), (18, .iaload, 19, []), (19, .ior, 20, []), (20, .aload_n 0, 21, []), (21, .getfield 15, 24, []), (24, .iconst (3), 25, []), (25, .iaload, 26, []), (26, .ior, 27, []), (27, .ifCond .ne (7), 30, [34]), (30, .iconst (1), 31, []), (31, .goto (4), 34, [35]), (34, .iconst (0), 35, []), (35, .ireturn, 36, [])]
def jx_b11 : List (Nat × Instr × Nat × List Nat) := [(0, .aload_n 0, 1, []), (1, .getfield 9, 4, []), (4, .iload_n 1, 5, []), (5, .iaload, 6, []), (6, .ireturn, 7, [])]
def jx_b12 : List (Nat × Instr × Nat × List Nat) := [(0, .iconst (0), 1, []), (1, .istore_n 2, 2, []), (2, .iconst (0), 3, []), (3, .istore_n 3, 4, []), (4, .iload_n 3, 5, []), (5, .iload_n 1, 6, []), (6, .if_icmp .ge (18), 9, [24]), (9, .iload_n 2, 10, []), (10, .aload_n 0, 11, []), (11, .getfield 9, 14, []), (14, .iload_n 3, 15, []), (15, .iaload, 16, []), (16, .ixor, 17, []), (17, .istore_n 2, 18, []), (18, .iinc 3 (1), 21, []), (21, .goto (-17), 24, [4]), (24, .iload_n 2, 25, []), (25, .ireturn, 26, [])]
def jx_b13 : List (Nat × Instr × Nat × List Nat) := [(0, .aload_n 0, 1, []), (1, .getfield 9, 4, []), (4, .iload_n 1, 5, []), (5, .iload_n 2, 6, []), (6, .iastore, 7, []), (7, .return_, 8, [])]
def jx_b14 : List (Nat × Instr × Nat × List Nat) := [(0, .aload_n 0, 1, []), (1, .getfield 15, 4, []), (4, .iload_n 1, 5, []), (5, .iaload, 6, []), (6, .ireturn, 7, [])]
def jx_b15 : List (Nat × Instr × Nat × List Nat) := [(0, .iconst (0), 1, []), (1, .istore_n 1, 2, []), (2, .iload_n 1, 3, []), (3, .iconst (4), 4, []), (4, .if_icmp .ge (17), 7, [21]), (7, .aload_n 0, 8, []), (8, .getfield 15, 11, []), (11, .iload_n 1, 12, []), (12, .bipush (-2), 14, []), (14, .iastore, 15, []), (15, .iinc 1 (1), 18, []), (18, .goto (-16), 21, [2]), (21, .return_, 22, [])]
def jx_b16 : List (Nat × Instr × Nat × List Nat) := [(0, .aload_n 0, 1, []), (1, .getfield 9, 4, []), (4, .iconst (2), 5, []), (5, .iaload, 6, []), (6, .bipush (16), 8, []), (8, .aload_n 0, 9, []), (9, .getfield 9, 12, []), (12, .iconst (3), 13, []), (13, .iaload, 14, []), (14, .imul, 15, []), (15, .iadd, 16, []), (16, .ireturn, 17, [])]
def jx_b17 : List (Nat × Instr × Nat × List Nat) := [(0, .aload_n 0, 1, []), (1, .getfield 9, 4, []), (4, .iconst (1), 5, []), (5, .iaload, 6, []), (6, .ireturn, 7, [])]
def jx_b18 : List (Nat × Instr × Nat × List Nat) := [(0, .aload_n 0, 1, []), (1, .getfield 9, 4, []), (4, .iconst (0), 5, []), (5, .iaload, 6, []), (6, .ireturn, 7, [])]
def jx_b19 : List (Nat × Instr × Nat × List Nat) := [(0, .aload_n 0, 1, []), (1, .getfield 9, 4, []), (4, .iconst (4), 5, []), (5, .iload_n 1, 6, []), (6, .iadd, 7, []), (7, .iaload, 8, []), (8, .ireturn, 9, [])]
def jx_b20 : List (Nat × Instr × Nat × List Nat) := [(0, .aload_n 0, 1, []), (1, .getfield 20, 4, []), (4, .istore_n 1, 5, []), (5, .aload_n 0, 6, []), (6, .iconst (0), 7, []), (7, .putfield 20, 10, []), (10, .iconst (0), 11, []), (11, .istore_n 2, 12, []), (12, .iload_n 2, 13, []), (13, .bipush (6), 15, []), (15, .if_icmp .ge (16), 18, [31]), (18, .aload_n 0, 19, []), (19, .getfield 16, 22, []), (22, .iload_n 2, 23, []), (23, .iconst (0), 24, []), (24, .bastore, 25, []), (25, .iinc 2 (1), 28, []), (28, .goto (-16), 31, [12]), (31, .aload_n 0, 32, []), (32, .iconst (0), 33, []), (33, .putfield 34, 36, []), (36, .iload_n 1, 37, []), (37, .ireturn, 38, [])]
def jx_b21 : List (Nat × Instr × Nat × List Nat) := [(0, .aload_n 0, 1, []), (1, .getfield 20, 4, []), (4, .ifCond .le (18), 7, [22]), (7, .aload_n 0, 8, []), (8, .getfield 20, 11, []), (11, .aload_n 0, 12, []), (12, .getfield 24, 15, []), (15, .if_icmp .lt (7), 18, [22]), (18, .iconst (1), 19, []), (19, .goto (4), 22, [23]), (22, .iconst (0), 23, []), (23, .ireturn, 24, [])]
def jx_b22 : List (Nat × Instr × Nat × List Nat) := [(0, .aload_n 0, 1, []), (1, .getfield 20, 4, []), (4, .ifCond .ne (7), 7, [11]), (7, .iconst (-1), 8, []), (8, .goto (14), 11, [22]), (11, .aload_n 0, 12, []), (12, .getfield 24, 15, []), (15, .iconst (2), 16, []), (16, .iadd, 17, []), (17, .aload_n 0, 18, []), (18, .getfield 20, 21, []), (21, .isub, 22, []), (22, .ireturn, 23, [])]
def jx_b23 : List (Nat × Instr × Nat × List Nat) := [(0, .iload_n 1, 1, []), (1, .istore_n 2, 2, []), (2, .iload_n 2, 3, []), (3, .aload_n 0, 4, []), (4, .getfield 24, 7, []), (7, .if_icmp .ge (20), 10, [27]), (10, .aload_n 0, 11, []), (11, .getfield 16, 14, []), (14, .iload_n 2, 15, []), (15, .baload, 16, []), (16, .ifCond .ne (5), 19, [21]), (19, .iload_n 2, 20, []), (20, .ireturn, 21, []), (21, .iinc 2 (1), 24, []), (24, .goto (-22), 27, [2]), (27, .aload_n 0, 28, []), (28, .getfield 24, 31, []), (31, .ireturn, 32, [])]
def jx_b24 : List (Nat × Instr × Nat × List Nat) := [(0, .aload_n 0, 1, []), (1, .getfield 30, 4, []), (4, .iload_n 1, 5, []), (5, .iaload, 6, []), (6, .ireturn, 7, [])]
def jx_b25 : List (Nat × Instr × Nat × List Nat) := [(0, .aload_n 0, 1, []), (1, .getfield 34, 4, []), (4, .ireturn, 5, [])]
def jx_b26 : List (Nat × Instr × Nat × List Nat) := [(0, .aload_n 0, 1, []), (1, .getfield 20, 4, []), (4, .iload_n 1, 5, []), (5, .baload, 6, []), (6, .ifCond .eq (9), 9, [15]), (9, .iconst (1), 10, []), (10, .iload_n 2, 11, []), (11, .ishl, 12, []), (12, .goto (4), 15, [16]), (15, .iconst (0), 16, []), (16, .ireturn, 17, [])]
def jx_b27 : List (Nat × Instr × Nat × List Nat) := [(0, .aload_n 0, 1, []), (1, .iload_n 1, 2, []), (2, .ifCond .lt (8), 5, [10]), (5, .iload_n 1, 6, []), (6, .iconst (3), 7, []), (7, .if_icmp .le (7), 10, [14]), (10, .iconst (1), 11, []), (11, .goto (4), 14, [15]), (14, .iconst (0), 15, []), (15, .putfield 51, 18, []), (18, .aload_n 0, 19, []), (19, .getfield 51, 22, []), (22, .ifCond .ne (12), 25, [34]), (25, .aload_n 0, 26, []), (26, .getfield 35, 29, []), (29, .iload_n 1, 30, []), (30, .iaload, 31, []), (31, .goto (4), 34, [35]), (34, .iconst (0), 35, []), (35, .ireturn, 36, [])]
def jx_b28 : List (Nat × Instr × Nat × List Nat) := [(0, .iload_n 1, 1, []), (1, .ifCond .eq (31), 4, [32]), (4, .iload_n 2, 5, []), (5, .ifCond .eq (27), 8, [32]), (8, .iload_n 1, 9, []), (9, .bipush (17), 11, []), (11, .if_icmp .ne (9), 14, [20]), (14, .iload_n 2, 15, []), (15, .iconst (2), 16, []), (16, .irem, 17, []), (17, .ifCond .eq (15), 20, [32]), (20, .iload_n 2, 21, []), (21, .bipush (17), 23, []), (23, .if_icmp .ne (13), 26, [36]), (26, .iload_n 1, 27, []), (27, .iconst (2), 28, []), (28, .irem, 29, []), (29, .ifCond .ne (7), 32, [36]), (32, .iconst (1), 33, []), (33, .goto (4), 36, [37]), (36, .iconst (0), 37, []), (37, .ireturn, 38, [])]
def jx_b29 : List (Nat × Instr × Nat × List Nat) := [(0, .aload_n 0, 1, []), (1, .getfield 32, 4, []), (4, .iconst (0), 5, []), (5, .iaload, 6, []), (6, .istore_n 1, 7, []), (7, .aload_n 0, 8, []), (8, .getfield 32, 11, []), (11, .iconst (1), 12, []), (12, .iaload, 13, []), (13, .istore_n 2, 14, []), (14, .aload_n 0, 15, []), (15, .getfield 32, 18, []), (18, .iconst (2), 19, []), (19, .iaload, 20, []), (20, .bipush (16), 22, []), (22, .aload_n 0, 23, []), (23, .getfield 32, 26, []), (26, .iconst (3), 27, []), (27, .iaload, 28, []), (28, .imul, 29, []), (29, .iadd, 30, []), (30, .istore_n 3, 31, []), (31, .iload_n 2, 32, []), (32, .iconst (1), 33, []), (33, .if_icmp .lt (34), 36, [67]), (36, .iload_n 2, 37, []), (37, .iconst (4), 38, []), (38, .if_icmp .gt (29), 41, [67]), (41, .iload_n 1, 42, []), (42, .iload_n 2, 43, []), (43, .iconst (1), 44, []), (44, .iadd, 45, []), (45, .if_icmp .gt (22), 48, [67]), (48, .iload_n 3, 49, []), (49, .bipush (20), 51, []), (51, .iload_n 2, 52, []), (52, .imul, 53, []), (53, .bipush (19), 55, []), (55, .isub, 56, []), (56, .if_icmp .lt (11), 59, [67]), (59, .iload_n 3, 60, []), (60, .bipush (20), 62, []), (62, .iload_n 2, 63, []), (63, .imul, 64, []), (64, .if_icmp .le (5), 67, [69]), (67, .iconst (-1), 68, []), (68, .ireturn, 69, []), (69, .aload_n 0, 70, []), (70, .getfield 111, 73, []), (73, .ifCond .le (22), 76, [95]), (76, .iload_n 2, 77, []), (77, .aload_n 0, 78, []), (78, .getfield 114, 81, []), (81, .if_icmp .ne (11), 84, [92]), (84, .iload_n 3, 85, []), (85, .aload_n 0, 86, []), (86, .getfield 117, 89, []), (89, .if_icmp .eq (6), 92, [95]), (92, .bipush (-2), 94, []), (94, .ireturn, 95, []), (95, .aload_n 0, 96, []), (96, .getfield 38, 99, []), (99, .iload_n 1, 100, []), (100, .baload, 101, []), (101, .ifCond .ne (67), 104, [168]), (104, .aload_n 0, 105, []), (105, .getfield 38, 108, []), (108, .iload_n 1, 109, []), (109, .iconst (1), 110, []), (110, .bastore, 111, []), (111, .aload_n 0, 112, []), (112, .dup, 113, []), (113, .getfield 111, 116, []), (116, .iconst (1), 117, []), (117, .iadd, 118, []), (118, .putfield 111, 121, []), (121, .aload_n 0, 122, []), (122, .iload_n 2, 123, []), (123, .putfield 114, 126, []), (126, .aload_n 0, 127, []), (127, .iload_n 3, 128, []), (128, .putfield 117, 131, []), (131, .iconst (0), 132, []), (132, .istore 4, 134, []), (134, .iload 4, 136, []), (136, .bipush (40), 138, []), (138, .if_icmp .ge (30), 141, [168]), (141, .aload_n 0, 142, []), (142, .getfield 41, 145, []), (145, .bipush (40), 147, []), (147, .iload_n 1, 148, []), (148, .imul, 149, []), (149, .iload 4, 151, []), (151, .iadd, 152, []), (152, .aload_n 0, 153, []), (153, .getfield 32, 156, []), (156, .iconst (4), 157, []), (157, .iload 4, 159, []), (159, .iadd, 160, []), (160, .iaload, 161, []), (161, .iastore, 162, []), (162, .iinc 4 (1), 165, []), (165, .goto (-31), 168, [134]), (168, .iload_n 1, 169, []), (169, .ireturn, 170, [])]
def jx_b30 : List (Nat × Instr × Nat × List Nat) := [(0, .aload_n 0, 1, []), (1, .iload_n 1, 2, []), (2, .ifCond .lt (10), 5, [12]), (5, .iload_n 1, 6, []), (6, .sipush (255), 9, []), (9, .if_icmp .le (7), 12, [16]), (12, .iconst (1), 13, []), (13, .goto (17), 16, [30]), (16, .aload_n 0, 17, []), (17, .getfield 55, 20, []), (20, .bipush (80), 22, []), (22, .if_icmp .ne (7), 25, [29]), (25, .iconst (2), 26, []), (26, .goto (4), 29, [30]), (29, .iconst (0), 30, []), (30, .putfield 51, 33, []), (33, .aload_n 0, 34, []), (34, .getfield 51, 37, []), (37, .ifCond .eq (5), 40, [42]), (40, .iconst (0), 41, []), (41, .ireturn, 42, []), (42, .aload_n 0, 43, []), (43, .getfield 7, 46, []), (46, .aload_n 0, 47, []), (47, .getfield 55, 50, []), (50, .iload_n 1, 51, []), (51, .iastore, 52, []), (52, .aload_n 0, 53, []), (53, .dup, 54, []), (54, .getfield 55, 57, []), (57, .iconst (1), 58, []), (58, .iadd, 59, []), (59, .putfield 55, 62, []), (62, .aload_n 0, 63, []), (63, .getfield 55, 66, []), (66, .ireturn, 67, [])]
def jx_b31 : List (Nat × Instr × Nat × List Nat) := [(0, .aload_n 0, 1, []), (1, .iconst (0), 2, []), (2, .putfield 51, 5, []), (5, .aload_n 0, 6, []), (6, .getfield 111, 9, []), (9, .ifCond .ne (7), 12, [16]), (12, .iconst (-1), 13, []), (13, .goto (14), 16, [27]), (16, .aload_n 0, 17, []), (17, .getfield 114, 20, []), (20, .iconst (2), 21, []), (21, .iadd, 22, []), (22, .aload_n 0, 23, []), (23, .getfield 111, 26, []), (26, .isub, 27, []), (27, .ireturn, 28, [])]
def jx_b32 : List (Nat × Instr × Nat × List Nat) := [(0, .iload_n 1, 1, []), (1, .ifCond .lt (31), 4, [32]), (4, .iload_n 1, 5, []), (5, .aload_n 0, 6, []), (6, .getfield 79, 9, []), (9, .if_icmp .ge (23), 12, [32]), (12, .iload_n 2, 13, []), (13, .ifCond .lt (19), 16, [32]), (16, .iload_n 2, 17, []), (17, .bipush (17), 19, []), (19, .if_icmp .gt (13), 22, [32]), (22, .iload_n 3, 23, []), (23, .ifCond .lt (9), 26, [32]), (26, .iload_n 3, 27, []), (27, .bipush (17), 29, []), (29, .if_icmp .le (7), 32, [36]), (32, .iconst (1), 33, []), (33, .goto (4), 36, [37]), (36, .iconst (0), 37, []), (37, .ireturn, 38, [])]
def jx_b33 : List (Nat × Instr × Nat × List Nat) := [(0, .aload_n 0, 1, []), (1, .getfield 17, 4, []), (4, .iload_n 1, 5, []), (5, .bipush (15), 7, []), (7, .irem, 8, []), (8, .iaload, 9, []), (9, .ireturn, 10, [])]
def jx_b34 : List (Nat × Instr × Nat × List Nat) := [(0, .aload_n 0, 1, []), (1, .iload_n 1, 2, []), (2, .ifCond .lt (11), 5, [13]), (5, .iload_n 1, 6, []), (6, .aload_n 0, 7, []), (7, .getfield 136, 10, []), (10, .if_icmp .lt (7), 13, [17]), (13, .iconst (1), 14, []), (14, .goto (4), 17, [18]), (17, .iconst (0), 18, []), (18, .putfield 51, 21, []), (21, .aload_n 0, 22, []), (22, .getfield 51, 25, []), (25, .ifCond .ne (12), 28, [37]), (28, .aload_n 0, 29, []), (29, .getfield 44, 32, []), (32, .iload_n 1, 33, []), (33, .iaload, 34, []), (34, .goto (4), 37, [38]), (37, .iconst (0), 38, []), (38, .ireturn, 39, [])]
def jx_b35 : List (Nat × Instr × Nat × List Nat) := [(0, .iconst (0), 1, []), (1, .istore_n 3, 2, []), (2, .iconst (0), 3, []), (3, .istore 4, 5, []), (5, .iload 4, 7, []), (7, .iconst (4), 8, []), (8, .if_icmp .ge (30), 11, [38]), (11, .iload_n 3, 12, []), (12, .iload_n 2, 13, []), (13, .iload 4, 15, []), (15, .ishr, 16, []), (16, .iconst (1), 17, []), (17, .iand, 18, []), (18, .iconst (1), 19, []), (19, .if_icmp .ne (10), 22, [29]), (22, .iload_n 1, 23, []), (23, .iload 4, 25, []), (25, .ishl, 26, []), (26, .goto (4), 29, [30]), (29, .iconst (0), 30, []), (30, .ixor, 31, []), (31, .istore_n 3, 32, []), (32, .iinc 4 (1), 35, []), (35, .goto (-30), 38, [5]), (38, .bipush (6), 40, []), (40, .istore 4, 42, []), (42, .iload 4, 44, []), (44, .iconst (3), 45, []), (45, .if_icmp .le (33), 48, [78]), (48, .iload_n 3, 49, []), (49, .iload 4, 51, []), (51, .ishr, 52, []), (52, .iconst (1), 53, []), (53, .iand, 54, []), (54, .iconst (1), 55, []), (55, .if_icmp .ne (15), 58, [70]), (58, .iload_n 3, 59, []), (59, .bipush (19), 61, []), (61, .iload 4, 63, []), (63, .iconst (4), 64, []), (64, .isub, 65, []), (65, .ishl, 66, []), (66, .ixor, 67, []), (67, .goto (4), 70, [71]), (70, .iload_n 3, 71, []), (71, .istore_n 3, 72, []), (72, .iinc 4 (-1), 75, []), (75, .goto (-33), 78, [42]), (78, .iload_n 3, 79, []), (79, .ireturn, 80, [])]
def jx_b36 : List (Nat × Instr × Nat × List Nat) := [(0, .aload_n 0, 1, []), (1, .iconst (0), 2, []), (2, .putfield 51, 5, []), (5, .aload_n 0, 6, []), (6, .getfield 111, 9, []), (9, .istore_n 1, 10, []), (10, .aload_n 0, 11, []), (11, .iconst (0), 12, []), (12, .putfield 111, 15, []), (15, .aload_n 0, 16, []), (16, .iconst (0), 17, []), (17, .putfield 136, 20, []), (20, .iconst (0), 21, []), (21, .istore_n 2, 22, []), (22, .iload_n 2, 23, []), (23, .bipush (6), 25, []), (25, .if_icmp .ge (16), 28, [41]), (28, .aload_n 0, 29, []), (29, .getfield 38, 32, []), (32, .iload_n 2, 33, []), (33, .iconst (0), 34, []), (34, .bastore, 35, []), (35, .iinc 2 (1), 38, []), (38, .goto (-16), 41, [22]), (41, .iload_n 1, 42, []), (42, .ireturn, 43, [])]
def jx_b37 : List (Nat × Instr × Nat × List Nat) := [(0, .aload_n 0, 1, []), (1, .getfield 38, 4, []), (4, .iload_n 1, 5, []), (5, .baload, 6, []), (6, .ifCond .eq (17), 9, [23]), (9, .aload_n 0, 10, []), (10, .getfield 41, 13, []), (13, .bipush (40), 15, []), (15, .iload_n 1, 16, []), (16, .imul, 17, []), (17, .iload_n 2, 18, []), (18, .iadd, 19, []), (19, .iaload, 20, []), (20, .goto (15), 23, [35]), (23, .iload_n 1, 24, []), (24, .iload_n 3, 25, []), (25, .if_icmp .ne (8), 28, [33]), (28, .iload 4, 30, []), (30, .goto (5), 33, [35]), (33, .iload 5, 35, []), (35, .ireturn, 36, [])]
def jx_b38 : List (Nat × Instr × Nat × List Nat) := [(0, .bipush (20), 2, []), (2, .iload_n 1, 3, []), (3, .imul, 4, []), (4, .iload_n 2, 5, []), (5, .iconst (2), 6, []), (6, .idiv, 7, []), (7, .iadd, 8, []), (8, .istore_n 3, 9, []), (9, .iload_n 3, 10, []), (10, .aload_n 0, 11, []), (11, .getfield 55, 14, []), (14, .if_icmp .lt (7), 17, [21]), (17, .iconst (0), 18, []), (18, .goto (29), 21, [47]), (21, .iload_n 2, 22, []), (22, .iconst (2), 23, []), (23, .irem, 24, []), (24, .ifCond .ne (15), 27, [39]), (27, .aload_n 0, 28, []), (28, .getfield 7, 31, []), (31, .iload_n 3, 32, []), (32, .iaload, 33, []), (33, .bipush (15), 35, []), (35, .iand, 36, []), (36, .goto (11), 39, [47]), (39, .aload_n 0, 40, []), (40, .getfield 7, 43, []), (43, .iload_n 3, 44, []), (44, .iaload, 45, []), (45, .iconst (4), 46, []), (46, .ishr, 47, []), (47, .ireturn, 48, [])]
def jx_b39 : List (Nat × Instr × Nat × List Nat) := [(0, .aload_n 0, 1, []), (1, .getfield 51, 4, []), (4, .ireturn, 5, [])]
def jx_b40 : List (Nat × Instr × Nat × List Nat) := [(0, .iconst (0), 1, []), (1, .istore_n 1, 2, []), (2, .iload_n 1, 3, []), (3, .sipush (324), 6, []), (6, .if_icmp .ge (35), 9, [41]), (9, .aload_n 0, 10, []), (10, .getfield 23, 13, []), (13, .bipush (18), 15, []), (15, .iload_n 1, 16, []), (16, .bipush (18), 18, []), (18, .irem, 19, []), (19, .imul, 20, []), (20, .bipush (17), 22, []), (22, .iadd, 23, []), (23, .iload_n 1, 24, []), (24, .bipush (18), 26, []), (26, .idiv, 27, []), (27, .isub, 28, []), (28, .aload_n 0, 29, []), (29, .getfield 20, 32, []), (32, .iload_n 1, 33, []), (33, .baload, 34, []), (34, .bastore, 35, []), (35, .iinc 1 (1), 38, []), (38, .goto (-36), 41, [2]), (41, .iconst (0), 42, []), (42, .istore_n 1, 43, []), (43, .iload_n 1, 44, []), (44, .sipush (324), 47, []), (47, .if_icmp .ge (21), 50, [68]), (50, .aload_n 0, 51, []), (51, .getfield 20, 54, []), (54, .iload_n 1, 55, []), (55, .aload_n 0, 56, []), (56, .getfield 23, 59, []), (59, .iload_n 1, 60, []), (60, .baload, 61, []), (61, .bastore, 62, []), (62, .iinc 1 (1), 65, []), (65, .goto (-22), 68, [43]), (68, .return_, 69, [])]
def jx_b41 : List (Nat × Instr × Nat × List Nat) := [(0, .aload_n 0, 1, []), (1, .iconst (0), 2, []), (2, .putfield 51, 5, []), (5, .aload_n 0, 6, []), (6, .getfield 55, 9, []), (9, .istore_n 1, 10, []), (10, .aload_n 0, 11, []), (11, .iconst (0), 12, []), (12, .putfield 55, 15, []), (15, .iload_n 1, 16, []), (16, .ireturn, 17, [])]
def jx_b42 : List (Nat × Instr × Nat × List Nat) := [(0, .getstatic 7, 3, []), (3, .iload_n 0, 4, []), (4, .bipush (15), 6, []), (6, .irem, 7, []), (7, .iaload, 8, []), (8, .ireturn, 9, [])]
def jx_b43 : List (Nat × Instr × Nat × List Nat) := [(0, .iload_n 0, 1, []), (1, .ifCond .eq (7), 4, [8]), (4, .iload_n 1, 5, []), (5, .ifCond .ne (5), 8, [10]), (8, .iconst (0), 9, []), (9, .ireturn, 10, []), (10, .getstatic 7, 13, []), (13, .getstatic 13, 16, []), (16, .iload_n 0, 17, []), (17, .iaload, 18, []), (18, .getstatic 13, 21, []), (21, .iload_n 1, 22, []), (22, .iaload, 23, []), (23, .iadd, 24, []), (24, .bipush (15), 26, []), (26, .irem, 27, []), (27, .iaload, 28, []), (28, .ireturn, 29, [])]
def jx_b44 : List (Nat × Instr × Nat × List Nat) := [(0, .iload_n 0, 1, []), (1, .ifCond .eq (7), 4, [8]), (4, .iload_n 1, 5, []), (5, .ifCond .ne (5), 8, [10]), (8, .iconst (0), 9, []), (9, .ireturn, 10, []), (10, .getstatic 7, 13, []), (13, .getstatic 13, 16, []), (16, .iload_n 0, 17, []), (17, .iaload, 18, []), (18, .bipush (15), 20, []), (20, .iadd, 21, []), (21, .getstatic 13, 24, []), (24, .iload_n 1, 25, []), (25, .iaload, 26, []), (26, .isub, 27, []), (27, .bipush (15), 29, []), (29, .irem, 30, []), (30, .iaload, 31, []), (31, .ireturn, 32, [])]
def jx_b45 : List (Nat × Instr × Nat × List Nat) := [(0, .iload_n 1, 1, []), (1, .ifCond .lt (8), 4, [9]), (4, .iload_n 1, 5, []), (5, .iconst (4), 6, []), (6, .if_icmp .lt (13), 9, [19]), (9, .new 58, 12, []), (12, .dup, 13, []), (13, .ldc 125, 15, []), (15, .invokespecial 62, 18, []), (18, .athrow, 19, []), (19, .aload_n 0, 20, []), (20, .getfield 46, 23, []), (23, .iload_n 1, 24, []), (24, .invokevirtual 127, 27, []), (27, .ireturn, 28, [])]
def jx_b46 : List (Nat × Instr × Nat × List Nat) := [(0, .aload_n 0, 1, []), (1, .iload_n 1, 2, []), (2, .invokevirtual 105, 5, []), (5, .ifCond .eq (27), 8, [32]), (8, .iload_n 2, 9, []), (9, .ifCond .lt (23), 12, [32]), (12, .iload_n 2, 13, []), (13, .bipush (18), 15, []), (15, .if_icmp .ge (17), 18, [32]), (18, .iload_n 3, 19, []), (19, .ifCond .lt (13), 22, [32]), (22, .iload_n 3, 23, []), (23, .bipush (18), 25, []), (25, .if_icmp .ge (7), 28, [32]), (28, .iconst (1), 29, []), (29, .goto (4), 32, [33]), (32, .iconst (0), 33, []), (33, .ireturn, 34, [])]
def jx_b47 : List (Nat × Instr × Nat × List Nat) := [(0, .aload_n 0, 1, []), (1, .getfield 53, 4, []), (4, .invokevirtual 131, 7, []), (7, .ireturn, 8, [])]
def jx_b48 : List (Nat × Instr × Nat × List Nat) := [(0, .iload_n 1, 1, []), (1, .ifCond .lt (14), 4, [15]), (4, .iload_n 1, 5, []), (5, .aload_n 0, 6, []), (6, .getfield 53, 9, []), (9, .invokevirtual 143, 12, []), (12, .if_icmp .lt (13), 15, [25]), (15, .new 146, 18, []), (18, .dup, 19, []), (19, .ldc 148, 21, []), (21, .invokespecial 150, 24, []), (24, .athrow, 25, []), (25, .aload_n 0, 26, []), (26, .getfield 53, 29, []), (29, .iload_n 1, 30, []), (30, .invokevirtual 151, 33, []), (33, .ireturn, 34, [])]
def jx_b49 : List (Nat × Instr × Nat × List Nat) := [(0, .aload_n 0, 1, []), (1, .getfield 53, 4, []), (4, .invokevirtual 154, 7, []), (7, .ireturn, 8, [])]
def jx_b50 : List (Nat × Instr × Nat × List Nat) := [(0, .iload_n 3, 1, []), (1, .tableswitch (60) (1) (3) #[(27), (37), (50)], 28, [61, 28, 38, 51]), (28, .aload_n 0, 29, []), (29, .iload_n 2, 30, []), (30, .bipush (17), 32, []), (32, .iload_n 1, 33, []), (33, .isub, 34, []), (34, .invokevirtual 15, 37, []), (37, .ireturn, 38, []), (38, .aload_n 0, 39, []), (39, .bipush (17), 41, []), (41, .iload_n 1, 42, []), (42, .isub, 43, []), (43, .bipush (17), 45, []), (45, .iload_n 2, 46, []), (46, .isub, 47, []), (47, .invokevirtual 15, 50, []), (50, .ireturn, 51, []), (51, .aload_n 0, 52, []), (52, .bipush (17), 54, []), (54, .iload_n 2, 55, []), (55, .isub, 56, []), (56, .iload_n 1, 57, []), (57, .invokevirtual 15, 60, []), (60, .ireturn, 61, []), (61, .aload_n 0, 62, []), (62, .iload_n 1, 63, []), (63, .iload_n 2, 64, []), (64, .invokevirtual 15, 67, []), (67, .ireturn, 68, [])]
def jx_b51 : List (Nat × Instr × Nat × List Nat) := [(0, .iconst (0), 1, []), (1, .istore 6, 3, []), (3, .iload_n 2, 4, []), (4, .istore 7, 6, []), (6, .iload 7, 8, []), (8, .iload 4, 10, []), (10, .if_icmp .ge (48), 13, [58]), (13, .iload_n 1, 14, []), (14, .istore 8, 16, []), (16, .iload 8, 18, []), (18, .iload_n 3, 19, []), (19, .if_icmp .ge (33), 22, [52]), (22, .aload_n 0, 23, []), (23, .iload 8, 25, []), (25, .iload 7, 27, []), (27, .invokevirtual 15, 30, []), (30, .iload 5, 32, []), (32, .if_icmp .eq (14), 35, [46]), (35, .aload_n 0, 36, []), (36, .iload 8, 38, []), (38, .iload 7, 40, []), (40, .invokevirtual 19, 43, []), (43, .iinc 6 (1), 46, []), (46, .iinc 8 (1), 49, []), (49, .goto (-33), 52, [16]), (52, .iinc 7 (1), 55, []), (55, .goto (-49), 58, [6]), (58, .iload 6, 60, []), (60, .ireturn, 61, [])]
def jx_b52 : List (Nat × Instr × Nat × List Nat) := [(0, .iconst (1), 1, []), (1, .istore 5, 3, []), (3, .iload 5, 5, []), (5, .iconst (4), 6, []), (6, .if_icmp .ge (53), 9, [59]), (9, .iload_n 2, 10, []), (10, .iload_n 1, 11, []), (11, .iload 5, 13, []), (13, .imul, 14, []), (14, .invokestatic 55, 17, []), (17, .invokestatic 37, 20, []), (20, .istore 6, 22, []), (22, .iload 4, 24, []), (24, .iload_n 3, 25, []), (25, .iload 5, 27, []), (27, .imul, 28, []), (28, .invokestatic 55, 31, []), (31, .invokestatic 37, 34, []), (34, .istore 7, 36, []), (36, .iload 6, 38, []), (38, .iload 7, 40, []), (40, .ixor, 41, []), (41, .aload_n 0, 42, []), (42, .getfield 15, 45, []), (45, .iload 5, 47, []), (47, .iaload, 48, []), (48, .if_icmp .eq (5), 51, [53]), (51, .iconst (0), 52, []), (52, .ireturn, 53, []), (53, .iinc 5 (1), 56, []), (56, .goto (-53), 59, [3]), (59, .iconst (1), 60, []), (60, .ireturn, 61, [])]
def jx_b53 : List (Nat × Instr × Nat × List Nat) := [(0, .iconst (0), 1, []), (1, .istore_n 1, 2, []), (2, .iload_n 1, 3, []), (3, .iconst (4), 4, []), (4, .if_icmp .ge (16), 7, [20]), (7, .aload_n 0, 8, []), (8, .getfield 9, 11, []), (11, .iload_n 1, 12, []), (12, .iconst (0), 13, []), (13, .iastore, 14, []), (14, .iinc 1 (1), 17, []), (17, .goto (-15), 20, [2]), (20, .bipush (14), 22, []), (22, .istore_n 1, 23, []), (23, .iload_n 1, 24, []), (24, .iconst (4), 25, []), (25, .if_icmp .lt (74), 28, [99]), (28, .aload_n 0, 29, []), (29, .getfield 9, 32, []), (32, .iload_n 1, 33, []), (33, .iaload, 34, []), (34, .aload_n 0, 35, []), (35, .getfield 9, 38, []), (38, .iconst (3), 39, []), (39, .iaload, 40, []), (40, .ixor, 41, []), (41, .istore_n 2, 42, []), (42, .iconst (3), 43, []), (43, .istore_n 3, 44, []), (44, .iload_n 3, 45, []), (45, .ifCond .le (33), 48, [78]), (48, .aload_n 0, 49, []), (49, .getfield 9, 52, []), (52, .iload_n 3, 53, []), (53, .aload_n 0, 54, []), (54, .getfield 9, 57, []), (57, .iload_n 3, 58, []), (58, .iconst (1), 59, []), (59, .isub, 60, []), (60, .iaload, 61, []), (61, .iload_n 2, 62, []), (62, .getstatic 34, 65, []), (65, .iload_n 3, 66, []), (66, .iaload, 67, []), (67, .invokestatic 37, 70, []), (70, .ixor, 71, []), (71, .iastore, 72, []), (72, .iinc 3 (-1), 75, []), (75, .goto (-31), 78, [44]), (78, .aload_n 0, 79, []), (79, .getfield 9, 82, []), (82, .iconst (0), 83, []), (83, .iload_n 2, 84, []), (84, .getstatic 34, 87, []), (87, .iconst (0), 88, []), (88, .iaload, 89, []), (89, .invokestatic 37, 92, []), (92, .iastore, 93, []), (93, .iinc 1 (-1), 96, []), (96, .goto (-73), 99, [23]), (99, .return_, 100, [])]
def jx_b54 : List (Nat × Instr × Nat × List Nat) := [(0, .iconst (0), 1, []), (1, .istore_n 1, 2, []), (2, .iload_n 1, 3, []), (3, .iconst (4), 4, []), (4, .if_icmp .ge (52), 7, [56]), (7, .iconst (0), 8, []), (8, .istore_n 2, 9, []), (9, .iconst (0), 10, []), (10, .istore_n 3, 11, []), (11, .iload_n 3, 12, []), (12, .bipush (15), 14, []), (14, .if_icmp .ge (29), 17, [43]), (17, .iload_n 2, 18, []), (18, .aload_n 0, 19, []), (19, .getfield 9, 22, []), (22, .iload_n 3, 23, []), (23, .iaload, 24, []), (24, .iload_n 3, 25, []), (25, .iload_n 1, 26, []), (26, .iconst (1), 27, []), (27, .iadd, 28, []), (28, .imul, 29, []), (29, .invokestatic 55, 32, []), (32, .invokestatic 37, 35, []), (35, .ixor, 36, []), (36, .istore_n 2, 37, []), (37, .iinc 3 (1), 40, []), (40, .goto (-29), 43, [11]), (43, .aload_n 0, 44, []), (44, .getfield 15, 47, []), (47, .iload_n 1, 48, []), (48, .iload_n 2, 49, []), (49, .iastore, 50, []), (50, .iinc 1 (1), 53, []), (53, .goto (-51), 56, [2]), (56, .return_, 57, [])]
def jx_b55 : List (Nat × Instr × Nat × List Nat) := [(0, .aload_n 0, 1, []), (1, .getfield 9, 4, []), (4, .iconst (4), 5, []), (5, .aload_n 1, 6, []), (6, .bipush (11), 8, []), (8, .iload_n 2, 9, []), (9, .imul, 10, []), (10, .bipush (11), 12, []), (12, .invokestatic 18, 15, []), (15, .return_, 16, [])]
def jx_b56 : List (Nat × Instr × Nat × List Nat) := [(0, .aload_n 0, 1, []), (1, .getfield 9, 4, []), (4, .iload_n 1, 5, []), (5, .dup2, 6, []), (6, .iaload, 7, []), (7, .iload_n 2, 8, []), (8, .iload_n 1, 9, []), (9, .invokestatic 55, 12, []), (12, .invokestatic 70, 15, []), (15, .ixor, 16, []), (16, .iastore, 17, []), (17, .return_, 18, [])]
def jx_b57 : List (Nat × Instr × Nat × List Nat) := [(0, .aload_n 1, 1, []), (1, .bipush (11), 3, []), (3, .iload_n 2, 4, []), (4, .imul, 5, []), (5, .aload_n 0, 6, []), (6, .getfield 9, 9, []), (9, .iconst (4), 10, []), (10, .bipush (11), 12, []), (12, .invokestatic 18, 15, []), (15, .return_, 16, [])]
def jx_b58 : List (Nat × Instr × Nat × List Nat) := [(0, .aload_n 0, 1, []), (1, .getfield 9, 4, []), (4, .iload_n 2, 5, []), (5, .aload_n 0, 6, []), (6, .getfield 9, 9, []), (9, .iload_n 1, 10, []), (10, .iaload, 11, []), (11, .aload_n 0, 12, []), (12, .iload_n 1, 13, []), (13, .invokevirtual 15, 16, []), (16, .ixor, 17, []), (17, .iastore, 18, []), (18, .return_, 19, [])]
def jx_b59 : List (Nat × Instr × Nat × List Nat) := [(0, .iconst (0), 1, []), (1, .istore_n 2, 2, []), (2, .iconst (0), 3, []), (3, .istore_n 3, 4, []), (4, .iload_n 3, 5, []), (5, .iload_n 1, 6, []), (6, .if_icmp .ge (25), 9, [31]), (9, .iload_n 2, 10, []), (10, .iload_n 3, 11, []), (11, .invokestatic 22, 14, []), (14, .aload_n 0, 15, []), (15, .getfield 9, 18, []), (18, .iload_n 3, 19, []), (19, .iaload, 20, []), (20, .invokestatic 35, 23, []), (23, .ixor, 24, []), (24, .istore_n 2, 25, []), (25, .iinc 3 (1), 28, []), (28, .goto (-24), 31, [4]), (31, .iload_n 2, 32, []), (32, .ireturn, 33, [])]
def jx_b60 : List (Nat × Instr × Nat × List Nat) := [(0, .bipush (20), 2, []), (2, .aload_n 0, 3, []), (3, .invokevirtual 58, 6, []), (6, .imul, 7, []), (7, .istore_n 1, 8, []), (8, .aload_n 0, 9, []), (9, .invokevirtual 58, 12, []), (12, .iconst (1), 13, []), (13, .if_icmp .lt (47), 16, [60]), (16, .aload_n 0, 17, []), (17, .invokevirtual 58, 20, []), (20, .iconst (4), 21, []), (21, .if_icmp .gt (39), 24, [60]), (24, .aload_n 0, 25, []), (25, .invokevirtual 61, 28, []), (28, .aload_n 0, 29, []), (29, .invokevirtual 58, 32, []), (32, .iconst (1), 33, []), (33, .iadd, 34, []), (34, .if_icmp .gt (26), 37, [60]), (37, .aload_n 0, 38, []), (38, .invokevirtual 64, 41, []), (41, .iload_n 1, 42, []), (42, .bipush (20), 44, []), (44, .isub, 45, []), (45, .if_icmp .le (15), 48, [60]), (48, .aload_n 0, 49, []), (49, .invokevirtual 64, 52, []), (52, .iload_n 1, 53, []), (53, .if_icmp .gt (7), 56, [60]), (56, .iconst (1), 57, []), (57, .goto (4), 60, [61]), (60, .iconst (0), 61, []), (61, .ireturn, 62, [])]
def jx_b61 : List (Nat × Instr × Nat × List Nat) := [(0, .iconst (0), 1, []), (1, .istore_n 2, 2, []), (2, .iload_n 2, 3, []), (3, .bipush (6), 5, []), (5, .if_icmp .ge (38), 8, [43]), (8, .aload_n 0, 9, []), (9, .getfield 40, 12, []), (12, .iload_n 2, 13, []), (13, .aload_n 0, 14, []), (14, .getfield 16, 17, []), (17, .iload_n 2, 18, []), (18, .baload, 19, []), (19, .ifCond .eq (14), 22, [33]), (22, .aload_n 0, 23, []), (23, .getfield 11, 26, []), (26, .iload_n 2, 27, []), (27, .aaload, 28, []), (28, .iload_n 1, 29, []), (29, .iaload, 30, []), (30, .goto (4), 33, [34]), (33, .iconst (0), 34, []), (34, .invokevirtual 76, 37, []), (37, .iinc 2 (1), 40, []), (40, .goto (-38), 43, [2]), (43, .return_, 44, [])]
def jx_b62 : List (Nat × Instr × Nat × List Nat) := [(0, .aload_n 1, 1, []), (1, .invokevirtual 51, 4, []), (4, .istore_n 2, 5, []), (5, .iconst (0), 6, []), (6, .istore_n 3, 7, []), (7, .iload_n 3, 8, []), (8, .bipush (40), 10, []), (10, .if_icmp .ge (22), 13, [32]), (13, .aload_n 0, 14, []), (14, .getfield 11, 17, []), (17, .iload_n 2, 18, []), (18, .aaload, 19, []), (19, .iload_n 3, 20, []), (20, .aload_n 1, 21, []), (21, .iload_n 3, 22, []), (22, .invokevirtual 73, 25, []), (25, .iastore, 26, []), (26, .iinc 3 (1), 29, []), (29, .goto (-22), 32, [7]), (32, .aload_n 0, 33, []), (33, .getfield 16, 36, []), (36, .iload_n 2, 37, []), (37, .iconst (1), 38, []), (38, .bastore, 39, []), (39, .aload_n 0, 40, []), (40, .dup, 41, []), (41, .getfield 20, 44, []), (44, .iconst (1), 45, []), (45, .iadd, 46, []), (46, .putfield 20, 49, []), (49, .return_, 50, [])]
def jx_b63 : List (Nat × Instr × Nat × List Nat) := [(0, .iconst (0), 1, []), (1, .istore_n 2, 2, []), (2, .iload_n 2, 3, []), (3, .aload_n 0, 4, []), (4, .getfield 24, 7, []), (7, .if_icmp .ge (61), 10, [68]), (10, .iload_n 2, 11, []), (11, .bipush (20), 13, []), (13, .imul, 14, []), (14, .iload_n 1, 15, []), (15, .iconst (2), 16, []), (16, .idiv, 17, []), (17, .iadd, 18, []), (18, .istore_n 3, 19, []), (19, .iload_n 1, 20, []), (20, .iconst (2), 21, []), (21, .irem, 22, []), (22, .ifCond .ne (20), 25, [42]), (25, .aload_n 0, 26, []), (26, .getfield 30, 29, []), (29, .iload_n 3, 30, []), (30, .aload_n 0, 31, []), (31, .getfield 40, 34, []), (34, .iload_n 2, 35, []), (35, .invokevirtual 89, 38, []), (38, .iastore, 39, []), (39, .goto (23), 42, [62]), (42, .aload_n 0, 43, []), (43, .getfield 30, 46, []), (46, .iload_n 3, 47, []), (47, .dup2, 48, []), (48, .iaload, 49, []), (49, .bipush (16), 51, []), (51, .aload_n 0, 52, []), (52, .getfield 40, 55, []), (55, .iload_n 2, 56, []), (56, .invokevirtual 89, 59, []), (59, .imul, 60, []), (60, .iadd, 61, []), (61, .iastore, 62, []), (62, .iinc 2 (1), 65, []), (65, .goto (-63), 68, [2]), (68, .return_, 69, [])]
def jx_b64 : List (Nat × Instr × Nat × List Nat) := [(0, .aload_n 0, 1, []), (1, .aload_n 0, 2, []), (2, .iload_n 1, 3, []), (3, .iload_n 2, 4, []), (4, .iload_n 3, 5, []), (5, .invokevirtual 86, 8, []), (8, .ifCond .ne (29), 11, [37]), (11, .iload 4, 13, []), (13, .iconst (1), 14, []), (14, .if_icmp .lt (23), 17, [37]), (17, .iload 4, 19, []), (19, .bipush (18), 21, []), (21, .if_icmp .gt (16), 24, [37]), (24, .iload 5, 26, []), (26, .iconst (1), 27, []), (27, .if_icmp .lt (10), 30, [37]), (30, .iload 5, 32, []), (32, .bipush (18), 34, []), (34, .if_icmp .le (7), 37, [41]), (37, .iconst (1), 38, []), (38, .goto (4), 41, [42]), (41, .iconst (0), 42, []), (42, .putfield 51, 45, []), (45, .iconst (0), 46, []), (46, .istore 7, 48, []), (48, .iload_n 3, 49, []), (49, .istore 8, 51, []), (51, .aload_n 0, 52, []), (52, .getfield 51, 55, []), (55, .ifCond .ne (105), 58, [160]), (58, .iload 8, 60, []), (60, .iload_n 3, 61, []), (61, .iload 5, 63, []), (63, .iadd, 64, []), (64, .if_icmp .ge (96), 67, [160]), (67, .iload 8, 69, []), (69, .bipush (18), 71, []), (71, .if_icmp .ge (89), 74, [160]), (74, .iload_n 2, 75, []), (75, .istore 9, 77, []), (77, .iload 9, 79, []), (79, .iload_n 2, 80, []), (80, .iload 4, 82, []), (82, .iadd, 83, []), (83, .if_icmp .ge (71), 86, [154]), (86, .iload 9, 88, []), (88, .bipush (18), 90, []), (90, .if_icmp .ge (64), 93, [154]), (93, .iload 7, 95, []), (95, .aload_n 0, 96, []), (96, .getfield 13, 99, []), (99, .sipush (324), 102, []), (102, .iload_n 1, 103, []), (103, .imul, 104, []), (104, .bipush (18), 106, []), (106, .iload 8, 108, []), (108, .imul, 109, []), (109, .iadd, 110, []), (110, .iload 9, 112, []), (112, .iadd, 113, []), (113, .baload, 114, []), (114, .iload 6, 116, []), (116, .if_icmp .eq (7), 119, [123]), (119, .iconst (1), 120, []), (120, .goto (4), 123, [124]), (123, .iconst (0), 124, []), (124, .iadd, 125, []), (125, .istore 7, 127, []), (127, .aload_n 0, 128, []), (128, .getfield 13, 131, []), (131, .sipush (324), 134, []), (134, .iload_n 1, 135, []), (135, .imul, 136, []), (136, .bipush (18), 138, []), (138, .iload 8, 140, []), (140, .imul, 141, []), (141, .iadd, 142, []), (142, .iload 9, 144, []), (144, .iadd, 145, []), (145, .iload 6, 147, []), (147, .bastore, 148, []), (148, .iinc 9 (1), 151, []), (151, .goto (-74), 154, [77]), (154, .iinc 8 (1), 157, []), (157, .goto (-106), 160, [51]), (160, .iload 7, 162, []), (162, .ireturn, 163, [])]
def jx_b65 : List (Nat × Instr × Nat × List Nat) := [(0, .iconst (0), 1, []), (1, .istore_n 1, 2, []), (2, .iload_n 1, 3, []), (3, .iconst (4), 4, []), (4, .if_icmp .ge (16), 7, [20]), (7, .aload_n 0, 8, []), (8, .getfield 26, 11, []), (11, .iload_n 1, 12, []), (12, .iconst (0), 13, []), (13, .iastore, 14, []), (14, .iinc 1 (1), 17, []), (17, .goto (-15), 20, [2]), (20, .iconst (0), 21, []), (21, .istore_n 1, 22, []), (22, .iconst (0), 23, []), (23, .istore_n 2, 24, []), (24, .iconst (0), 25, []), (25, .istore_n 3, 26, []), (26, .iconst (0), 27, []), (27, .istore 4, 29, []), (29, .bipush (14), 31, []), (31, .istore 5, 33, []), (33, .iload 5, 35, []), (35, .iconst (3), 36, []), (36, .if_icmp .le (64), 39, [100]), (39, .iload_n 1, 40, []), (40, .aload_n 0, 41, []), (41, .getfield 26, 44, []), (44, .iload 5, 46, []), (46, .iaload, 47, []), (47, .ixor, 48, []), (48, .istore 6, 50, []), (50, .iload_n 2, 51, []), (51, .aload_n 0, 52, []), (52, .iload 6, 54, []), (54, .bipush (13), 56, []), (56, .invokevirtual 47, 59, []), (59, .ixor, 60, []), (60, .istore_n 1, 61, []), (61, .iload_n 3, 62, []), (62, .aload_n 0, 63, []), (63, .iload 6, 65, []), (65, .bipush (12), 67, []), (67, .invokevirtual 47, 70, []), (70, .ixor, 71, []), (71, .istore_n 2, 72, []), (72, .iload 4, 74, []), (74, .aload_n 0, 75, []), (75, .iload 6, 77, []), (77, .bipush (8), 79, []), (79, .invokevirtual 47, 82, []), (82, .ixor, 83, []), (83, .istore_n 3, 84, []), (84, .aload_n 0, 85, []), (85, .iload 6, 87, []), (87, .bipush (7), 89, []), (89, .invokevirtual 47, 92, []), (92, .istore 4, 94, []), (94, .iinc 5 (-1), 97, []), (97, .goto (-64), 100, [33]), (100, .aload_n 0, 101, []), (101, .getfield 26, 104, []), (104, .iconst (3), 105, []), (105, .iload_n 1, 106, []), (106, .iastore, 107, []), (107, .aload_n 0, 108, []), (108, .getfield 26, 111, []), (111, .iconst (2), 112, []), (112, .iload_n 2, 113, []), (113, .iastore, 114, []), (114, .aload_n 0, 115, []), (115, .getfield 26, 118, []), (118, .iconst (1), 119, []), (119, .iload_n 3, 120, []), (120, .iastore, 121, []), (121, .aload_n 0, 122, []), (122, .getfield 26, 125, []), (125, .iconst (0), 126, []), (126, .iload 4, 128, []), (128, .iastore, 129, []), (129, .return_, 130, [])]
def jx_b66 : List (Nat × Instr × Nat × List Nat) := [(0, .aload_n 0, 1, []), (1, .aload_n 0, 2, []), (2, .iload_n 1, 3, []), (3, .iload_n 2, 4, []), (4, .iload_n 3, 5, []), (5, .invokevirtual 86, 8, []), (8, .ifCond .eq (7), 11, [15]), (11, .iconst (1), 12, []), (12, .goto (4), 15, [16]), (15, .iconst (0), 16, []), (16, .putfield 51, 19, []), (19, .aload_n 0, 20, []), (20, .getfield 51, 23, []), (23, .ifCond .ne (27), 26, [50]), (26, .aload_n 0, 27, []), (27, .getfield 13, 30, []), (30, .sipush (324), 33, []), (33, .iload_n 1, 34, []), (34, .imul, 35, []), (35, .bipush (18), 37, []), (37, .iload_n 3, 38, []), (38, .imul, 39, []), (39, .iadd, 40, []), (40, .iload_n 2, 41, []), (41, .iadd, 42, []), (42, .baload, 43, []), (43, .ifCond .eq (7), 46, [50]), (46, .iconst (1), 47, []), (47, .goto (4), 50, [51]), (50, .iconst (0), 51, []), (51, .ireturn, 52, [])]
def jx_b67 : List (Nat × Instr × Nat × List Nat) := [(0, .iconst (1), 1, []), (1, .istore 5, 3, []), (3, .iconst (1), 4, []), (4, .istore 6, 6, []), (6, .iload 6, 8, []), (8, .iconst (5), 9, []), (9, .if_icmp .ge (59), 12, [68]), (12, .iload 5, 14, []), (14, .ifCond .eq (45), 17, [59]), (17, .aload_n 0, 18, []), (18, .getfield 29, 21, []), (21, .iload 6, 23, []), (23, .iaload, 24, []), (24, .aload_n 0, 25, []), (25, .iload_n 2, 26, []), (26, .aload_n 0, 27, []), (27, .iload 6, 29, []), (29, .iload_n 1, 30, []), (30, .imul, 31, []), (31, .invokevirtual 61, 34, []), (34, .invokevirtual 47, 37, []), (37, .aload_n 0, 38, []), (38, .iload 4, 40, []), (40, .aload_n 0, 41, []), (41, .iload 6, 43, []), (43, .iload_n 3, 44, []), (44, .imul, 45, []), (45, .invokevirtual 61, 48, []), (48, .invokevirtual 47, 51, []), (51, .ixor, 52, []), (52, .if_icmp .ne (7), 55, [59]), (55, .iconst (1), 56, []), (56, .goto (4), 59, [60]), (59, .iconst (0), 60, []), (60, .istore 5, 62, []), (62, .iinc 6 (1), 65, []), (65, .goto (-59), 68, [6]), (68, .iload 5, 70, []), (70, .ireturn, 71, [])]
def jx_b68 : List (Nat × Instr × Nat × List Nat) := [(0, .aload_n 0, 1, []), (1, .aload_n 0, 2, []), (2, .iload_n 1, 3, []), (3, .iload_n 2, 4, []), (4, .iload_n 3, 5, []), (5, .invokevirtual 86, 8, []), (8, .ifCond .eq (7), 11, [15]), (11, .iconst (1), 12, []), (12, .goto (4), 15, [16]), (15, .iconst (0), 16, []), (16, .putfield 51, 19, []), (19, .aload_n 0, 20, []), (20, .getfield 51, 23, []), (23, .ifCond .ne (45), 26, [68]), (26, .aload_n 0, 27, []), (27, .getfield 13, 30, []), (30, .sipush (324), 33, []), (33, .iload_n 1, 34, []), (34, .imul, 35, []), (35, .bipush (18), 37, []), (37, .iload_n 3, 38, []), (38, .imul, 39, []), (39, .iadd, 40, []), (40, .iload_n 2, 41, []), (41, .iadd, 42, []), (42, .aload_n 0, 43, []), (43, .getfield 13, 46, []), (46, .sipush (324), 49, []), (49, .iload_n 1, 50, []), (50, .imul, 51, []), (51, .bipush (18), 53, []), (53, .iload_n 3, 54, []), (54, .imul, 55, []), (55, .iadd, 56, []), (56, .iload_n 2, 57, []), (57, .iadd, 58, []), (58, .baload, 59, []), (59, .ifCond .ne (7), 62, [66]), (62, .iconst (1), 63, []), (63, .goto (4), 66, [67]), (66, .iconst (0), 67, []), (67, .bastore, 68, []), (68, .return_, 69, [])]
def jx_b69 : List (Nat × Instr × Nat × List Nat) := [(0, .iconst (0), 1, []), (1, .istore_n 1, 2, []), (2, .iconst (0), 3, []), (3, .istore_n 2, 4, []), (4, .iload_n 2, 5, []), (5, .sipush (324), 8, []), (8, .if_icmp .ge (78), 11, [86]), (11, .iload_n 2, 12, []), (12, .bipush (18), 14, []), (14, .irem, 15, []), (15, .istore_n 3, 16, []), (16, .iload_n 2, 17, []), (17, .bipush (18), 19, []), (19, .idiv, 20, []), (20, .istore 4, 22, []), (22, .iload_n 3, 23, []), (23, .ifCond .eq (21), 26, [44]), (26, .iload 4, 28, []), (28, .ifCond .eq (16), 31, [44]), (31, .iload_n 3, 32, []), (32, .bipush (17), 34, []), (34, .if_icmp .eq (10), 37, [44]), (37, .iload 4, 39, []), (39, .bipush (17), 41, []), (41, .if_icmp .ne (7), 44, [48]), (44, .iconst (1), 45, []), (45, .goto (4), 48, [49]), (48, .iconst (0), 49, []), (49, .istore 5, 51, []), (51, .iload_n 1, 52, []), (52, .iload 5, 54, []), (54, .ifCond .eq (23), 57, [77]), (57, .aload_n 0, 58, []), (58, .getfield 20, 61, []), (61, .iload_n 2, 62, []), (62, .baload, 63, []), (63, .aload_n 0, 64, []), (64, .iload_n 3, 65, []), (65, .iload 4, 67, []), (67, .invokevirtual 69, 70, []), (70, .if_icmp .eq (7), 73, [77]), (73, .iconst (1), 74, []), (74, .goto (4), 77, [78]), (77, .iconst (0), 78, []), (78, .iadd, 79, []), (79, .istore_n 1, 80, []), (80, .iinc 2 (1), 83, []), (83, .goto (-79), 86, [4]), (86, .iload_n 1, 87, []), (87, .ireturn, 88, [])]
def jx_b70 : List (Nat × Instr × Nat × List Nat) := [(0, .iconst (0), 1, []), (1, .istore 5, 3, []), (3, .iconst (0), 4, []), (4, .istore 6, 6, []), (6, .iconst (0), 7, []), (7, .istore 7, 9, []), (9, .iload 7, 11, []), (11, .aload_n 0, 12, []), (12, .getfield 114, 15, []), (15, .if_icmp .ge (46), 18, [61]), (18, .aload_n 0, 19, []), (19, .iload 7, 21, []), (21, .iload_n 1, 22, []), (22, .iload_n 2, 23, []), (23, .iload_n 3, 24, []), (24, .iload 4, 26, []), (26, .invokevirtual 132, 29, []), (29, .istore 8, 31, []), (31, .iload 5, 33, []), (33, .iload 8, 35, []), (35, .ixor, 36, []), (36, .istore 5, 38, []), (38, .iload 6, 40, []), (40, .aload_n 0, 41, []), (41, .aload_n 0, 42, []), (42, .iload 7, 44, []), (44, .invokevirtual 61, 47, []), (47, .iload 8, 49, []), (49, .invokevirtual 47, 52, []), (52, .ixor, 53, []), (53, .istore 6, 55, []), (55, .iinc 7 (1), 58, []), (58, .goto (-49), 61, [9]), (61, .aload_n 0, 62, []), (62, .getfield 38, 65, []), (65, .aload_n 0, 66, []), (66, .getfield 114, 69, []), (69, .baload, 70, []), (70, .ifCond .eq (22), 73, [92]), (73, .iload 5, 75, []), (75, .aload_n 0, 76, []), (76, .getfield 41, 79, []), (79, .bipush (40), 81, []), (81, .aload_n 0, 82, []), (82, .getfield 114, 85, []), (85, .imul, 86, []), (86, .iload_n 1, 87, []), (87, .iadd, 88, []), (88, .iaload, 89, []), (89, .if_icmp .ne (7), 92, [96]), (92, .iconst (1), 93, []), (93, .goto (4), 96, [97]), (96, .iconst (0), 97, []), (97, .istore 7, 99, []), (99, .iload 7, 101, []), (101, .ifCond .eq (42), 104, [143]), (104, .aload_n 0, 105, []), (105, .getfield 38, 108, []), (108, .aload_n 0, 109, []), (109, .getfield 114, 112, []), (112, .iconst (1), 113, []), (113, .iadd, 114, []), (114, .baload, 115, []), (115, .ifCond .eq (24), 118, [139]), (118, .iload 6, 120, []), (120, .aload_n 0, 121, []), (121, .getfield 41, 124, []), (124, .bipush (40), 126, []), (126, .aload_n 0, 127, []), (127, .getfield 114, 130, []), (130, .iconst (1), 131, []), (131, .iadd, 132, []), (132, .imul, 133, []), (133, .iload_n 1, 134, []), (134, .iadd, 135, []), (135, .iaload, 136, []), (136, .if_icmp .ne (7), 139, [143]), (139, .iconst (1), 140, []), (140, .goto (4), 143, [144]), (143, .iconst (0), 144, []), (144, .ireturn, 145, [])]
def jx_b71 : List (Nat × Instr × Nat × List Nat) := [(0, .iconst (0), 1, []), (1, .istore 4, 3, []), (3, .iconst (0), 4, []), (4, .istore 5, 6, []), (6, .iload 5, 8, []), (8, .aload_n 0, 9, []), (9, .getfield 114, 12, []), (12, .if_icmp .ge (55), 15, [67]), (15, .aload_n 0, 16, []), (16, .iload 5, 18, []), (18, .iload_n 1, 19, []), (19, .iload_n 2, 20, []), (20, .iload_n 3, 21, []), (21, .iload_n 3, 22, []), (22, .invokevirtual 132, 25, []), (25, .istore 6, 27, []), (27, .iload 4, 29, []), (29, .aload_n 0, 30, []), (30, .getfield 38, 33, []), (33, .aload_n 0, 34, []), (34, .getfield 114, 37, []), (37, .baload, 38, []), (38, .ifCond .eq (8), 41, [46]), (41, .iload 6, 43, []), (43, .goto (15), 46, [58]), (46, .aload_n 0, 47, []), (47, .aload_n 0, 48, []), (48, .iload 5, 50, []), (50, .invokevirtual 61, 53, []), (53, .iload 6, 55, []), (55, .invokevirtual 47, 58, []), (58, .ixor, 59, []), (59, .istore 4, 61, []), (61, .iinc 5 (1), 64, []), (64, .goto (-58), 67, [6]), (67, .iload 4, 69, []), (69, .aload_n 0, 70, []), (70, .getfield 41, 73, []), (73, .bipush (40), 75, []), (75, .aload_n 0, 76, []), (76, .getfield 38, 79, []), (79, .aload_n 0, 80, []), (80, .getfield 114, 83, []), (83, .baload, 84, []), (84, .ifCond .eq (10), 87, [94]), (87, .aload_n 0, 88, []), (88, .getfield 114, 91, []), (91, .goto (9), 94, [100]), (94, .aload_n 0, 95, []), (95, .getfield 114, 98, []), (98, .iconst (1), 99, []), (99, .iadd, 100, []), (100, .imul, 101, []), (101, .iload_n 1, 102, []), (102, .iadd, 103, []), (103, .iaload, 104, []), (104, .if_icmp .ne (7), 107, [111]), (107, .iconst (1), 108, []), (108, .goto (4), 111, [112]), (111, .iconst (0), 112, []), (112, .ireturn, 113, [])]
def jx_b72 : List (Nat × Instr × Nat × List Nat) := [(0, .iload_n 1, 1, []), (1, .iload_n 2, 2, []), (2, .if_icmp .ge (10), 5, [12]), (5, .aload_n 0, 6, []), (6, .iload_n 1, 7, []), (7, .iload_n 3, 8, []), (8, .invokevirtual 58, 11, []), (11, .ireturn, 12, []), (12, .iconst (0), 13, []), (13, .istore 4, 15, []), (15, .iconst (0), 16, []), (16, .istore 5, 18, []), (18, .iload 5, 20, []), (20, .iload_n 2, 21, []), (21, .if_icmp .ge (46), 24, [67]), (24, .iload 4, 26, []), (26, .iload_n 1, 27, []), (27, .iload_n 2, 28, []), (28, .if_icmp .ne (13), 31, [41]), (31, .aload_n 0, 32, []), (32, .iload 5, 34, []), (34, .iload_n 3, 35, []), (35, .invokevirtual 58, 38, []), (38, .goto (20), 41, [58]), (41, .aload_n 0, 42, []), (42, .aload_n 0, 43, []), (43, .iload 5, 45, []), (45, .invokevirtual 61, 48, []), (48, .aload_n 0, 49, []), (49, .iload 5, 51, []), (51, .iload_n 3, 52, []), (52, .invokevirtual 58, 55, []), (55, .invokevirtual 47, 58, []), (58, .ixor, 59, []), (59, .istore 4, 61, []), (61, .iinc 5 (1), 64, []), (64, .goto (-46), 67, [18]), (67, .iload 4, 69, []), (69, .ireturn, 70, [])]
def jx_b73 : List (Nat × Instr × Nat × List Nat) := [(0, .iconst (0), 1, []), (1, .istore_n 3, 2, []), (2, .aload_n 0, 3, []), (3, .iload_n 3, 4, []), (4, .iload_n 2, 5, []), (5, .invokevirtual 47, 8, []), (8, .iload_n 1, 9, []), (9, .if_icmp .eq (9), 12, [18]), (12, .iinc 3 (1), 15, []), (15, .goto (-13), 18, [2]), (18, .iload_n 3, 19, []), (19, .ireturn, 20, [])]
def jx_b74 : List (Nat × Instr × Nat × List Nat) := [(0, .iconst (0), 1, []), (1, .istore_n 2, 2, []), (2, .iconst (0), 3, []), (3, .istore_n 3, 4, []), (4, .iload_n 3, 5, []), (5, .bipush (15), 7, []), (7, .if_icmp .ge (29), 10, [36]), (10, .iload_n 2, 11, []), (11, .aload_n 0, 12, []), (12, .aload_n 0, 13, []), (13, .getfield 26, 16, []), (16, .iload_n 3, 17, []), (17, .iaload, 18, []), (18, .aload_n 0, 19, []), (19, .iload_n 3, 20, []), (20, .iload_n 1, 21, []), (21, .imul, 22, []), (22, .invokevirtual 61, 25, []), (25, .invokevirtual 47, 28, []), (28, .ixor, 29, []), (29, .istore_n 2, 30, []), (30, .iinc 3 (1), 33, []), (33, .goto (-29), 36, [4]), (36, .iload_n 2, 37, []), (37, .ireturn, 38, [])]
def jx_b75 : List (Nat × Instr × Nat × List Nat) := [(0, .iload_n 1, 1, []), (1, .iload_n 2, 2, []), (2, .iload_n 0, 3, []), (3, .invokestatic 16, 6, []), (6, .ixor, 7, []), (7, .iload_n 2, 8, []), (8, .iload_n 3, 9, []), (9, .ixor, 10, []), (10, .invokestatic 20, 13, []), (13, .ireturn, 14, [])]
def jx_b76 : List (Nat × Instr × Nat × List Nat) := [(0, .aload_n 0, 1, []), (1, .iload_n 1, 2, []), (2, .iload_n 2, 3, []), (3, .iload_n 3, 4, []), (4, .invokevirtual 80, 7, []), (7, .ifCond .ne (13), 10, [20]), (10, .new 58, 13, []), (13, .dup, 14, []), (14, .ldc 84, 16, []), (16, .invokespecial 62, 19, []), (19, .athrow, 20, []), (20, .iload 4, 22, []), (22, .iconst (1), 23, []), (23, .if_icmp .lt (23), 26, [46]), (26, .iload 4, 28, []), (28, .bipush (18), 30, []), (30, .if_icmp .gt (16), 33, [46]), (33, .iload 5, 35, []), (35, .iconst (1), 36, []), (36, .if_icmp .lt (10), 39, [46]), (39, .iload 5, 41, []), (41, .bipush (18), 43, []), (43, .if_icmp .le (13), 46, [56]), (46, .new 58, 49, []), (49, .dup, 50, []), (50, .ldc 90, 52, []), (52, .invokespecial 62, 55, []), (55, .athrow, 56, []), (56, .iload_n 2, 57, []), (57, .iload 4, 59, []), (59, .iadd, 60, []), (60, .bipush (18), 62, []), (62, .invokestatic 92, 65, []), (65, .istore 7, 67, []), (67, .iload_n 3, 68, []), (68, .iload 5, 70, []), (70, .iadd, 71, []), (71, .bipush (18), 73, []), (73, .invokestatic 92, 76, []), (76, .istore 8, 78, []), (78, .aload_n 0, 79, []), (79, .getfield 19, 82, []), (82, .iload_n 1, 83, []), (83, .aaload, 84, []), (84, .iload_n 2, 85, []), (85, .iload_n 3, 86, []), (86, .iload 7, 88, []), (88, .iload 8, 90, []), (90, .iload 6, 92, []), (92, .invokevirtual 98, 95, []), (95, .ireturn, 96, [])]
def jx_b77 : List (Nat × Instr × Nat × List Nat) := [(0, .aload_n 0, 1, []), (1, .iload_n 1, 2, []), (2, .iload_n 2, 3, []), (3, .iload_n 3, 4, []), (4, .invokevirtual 80, 7, []), (7, .ifCond .ne (13), 10, [20]), (10, .new 58, 13, []), (13, .dup, 14, []), (14, .ldc 84, 16, []), (16, .invokespecial 62, 19, []), (19, .athrow, 20, []), (20, .aload_n 0, 21, []), (21, .getfield 19, 24, []), (24, .iload_n 1, 25, []), (25, .aaload, 26, []), (26, .iload_n 2, 27, []), (27, .iload_n 3, 28, []), (28, .invokevirtual 86, 31, []), (31, .ireturn, 32, [])]
def jx_b78 : List (Nat × Instr × Nat × List Nat) := [(0, .aload_n 0, 1, []), (1, .iload_n 1, 2, []), (2, .iload_n 2, 3, []), (3, .iload_n 3, 4, []), (4, .invokevirtual 80, 7, []), (7, .ifCond .ne (13), 10, [20]), (10, .new 58, 13, []), (13, .dup, 14, []), (14, .ldc 84, 16, []), (16, .invokespecial 62, 19, []), (19, .athrow, 20, []), (20, .aload_n 0, 21, []), (21, .getfield 19, 24, []), (24, .iload_n 1, 25, []), (25, .aaload, 26, []), (26, .iload_n 2, 27, []), (27, .iload_n 3, 28, []), (28, .invokevirtual 102, 31, []), (31, .return_, 32, [])]
def jx_b79 : List (Nat × Instr × Nat × List Nat) := [(0, .aload_n 0, 1, []), (1, .iload_n 1, 2, []), (2, .iload_n 2, 3, []), (3, .iload_n 1, 4, []), (4, .iconst (1), 5, []), (5, .iadd, 6, []), (6, .iload_n 2, 7, []), (7, .iconst (1), 8, []), (8, .iadd, 9, []), (9, .iload_n 1, 10, []), (10, .iload_n 2, 11, []), (11, .invokestatic 45, 14, []), (14, .invokevirtual 33, 17, []), (17, .pop, 18, []), (18, .return_, 19, [])]
def jx_b80 : List (Nat × Instr × Nat × List Nat) := [(0, .iload_n 1, 1, []), (1, .invokestatic 26, 4, []), (4, .istore_n 3, 5, []), (5, .iload_n 1, 6, []), (6, .invokestatic 30, 9, []), (9, .istore 4, 11, []), (11, .iconst (0), 12, []), (12, .istore 5, 14, []), (14, .iload 5, 16, []), (16, .iconst (4), 17, []), (17, .if_icmp .ge (59), 20, [76]), (20, .aload_n 0, 21, []), (21, .iload_n 3, 22, []), (22, .iload 5, 24, []), (24, .iconst (2), 25, []), (25, .irem, 26, []), (26, .iadd, 27, []), (27, .iload 4, 29, []), (29, .iload 5, 31, []), (31, .iconst (2), 32, []), (32, .idiv, 33, []), (33, .iadd, 34, []), (34, .iload_n 3, 35, []), (35, .iload 5, 37, []), (37, .iconst (2), 38, []), (38, .irem, 39, []), (39, .iadd, 40, []), (40, .iconst (1), 41, []), (41, .iadd, 42, []), (42, .iload 4, 44, []), (44, .iload 5, 46, []), (46, .iconst (2), 47, []), (47, .idiv, 48, []), (48, .iadd, 49, []), (49, .iconst (1), 50, []), (50, .iadd, 51, []), (51, .iload_n 2, 52, []), (52, .iload 5, 54, []), (54, .ishr, 55, []), (55, .iconst (1), 56, []), (56, .iand, 57, []), (57, .iconst (1), 58, []), (58, .if_icmp .ne (7), 61, [65]), (61, .iconst (1), 62, []), (62, .goto (4), 65, [66]), (65, .iconst (0), 66, []), (66, .invokevirtual 33, 69, []), (69, .pop, 70, []), (70, .iinc 5 (1), 73, []), (73, .goto (-59), 76, [14]), (76, .return_, 77, [])]
def jx_b81 : List (Nat × Instr × Nat × List Nat) := [(0, .aload_n 0, 1, []), (1, .iload_n 1, 2, []), (2, .iload_n 2, 3, []), (3, .iload_n 3, 4, []), (4, .invokevirtual 37, 7, []), (7, .iload_n 1, 8, []), (8, .iload_n 2, 9, []), (9, .invokestatic 45, 12, []), (12, .if_icmp .ne (7), 15, [19]), (15, .iconst (0), 16, []), (16, .goto (4), 19, [20]), (19, .iconst (1), 20, []), (20, .ireturn, 21, [])]
def jx_b82 : List (Nat × Instr × Nat × List Nat) := [(0, .iload_n 1, 1, []), (1, .invokestatic 26, 4, []), (4, .istore_n 3, 5, []), (5, .iload_n 1, 6, []), (6, .invokestatic 30, 9, []), (9, .istore 4, 11, []), (11, .iconst (0), 12, []), (12, .istore 5, 14, []), (14, .iconst (0), 15, []), (15, .istore 6, 17, []), (17, .iload 6, 19, []), (19, .iconst (4), 20, []), (20, .if_icmp .ge (39), 23, [59]), (23, .aload_n 0, 24, []), (24, .iload_n 3, 25, []), (25, .iload 6, 27, []), (27, .iconst (2), 28, []), (28, .irem, 29, []), (29, .iadd, 30, []), (30, .iload 4, 32, []), (32, .iload 6, 34, []), (34, .iconst (2), 35, []), (35, .idiv, 36, []), (36, .iadd, 37, []), (37, .iload_n 2, 38, []), (38, .invokevirtual 37, 41, []), (41, .ifCond .eq (12), 44, [53]), (44, .iload 5, 46, []), (46, .iconst (1), 47, []), (47, .iload 6, 49, []), (49, .ishl, 50, []), (50, .ior, 51, []), (51, .istore 5, 53, []), (53, .iinc 6 (1), 56, []), (56, .goto (-39), 59, [17]), (59, .iload 5, 61, []), (61, .ireturn, 62, [])]
def jx_b83 : List (Nat × Instr × Nat × List Nat) := [(0, .iconst (0), 1, []), (1, .istore_n 1, 2, []), (2, .iload_n 1, 3, []), (3, .bipush (15), 5, []), (5, .if_icmp .ge (38), 8, [43]), (8, .aload_n 0, 9, []), (9, .iload_n 1, 10, []), (10, .aload_n 0, 11, []), (11, .getfield 15, 14, []), (14, .iconst (0), 15, []), (15, .iaload, 16, []), (16, .iload_n 1, 17, []), (17, .iconst (0), 18, []), (18, .invokevirtual 59, 21, []), (21, .ifCond .eq (16), 24, [37]), (24, .aload_n 0, 25, []), (25, .iload_n 1, 26, []), (26, .aload_n 0, 27, []), (27, .getfield 15, 30, []), (30, .iconst (0), 31, []), (31, .iaload, 32, []), (32, .invokevirtual 63, 35, []), (35, .iconst (1), 36, []), (36, .ireturn, 37, []), (37, .iinc 1 (1), 40, []), (40, .goto (-38), 43, [2]), (43, .iconst (0), 44, []), (44, .ireturn, 45, [])]
def jx_b84 : List (Nat × Instr × Nat × List Nat) := [(0, .iconst (0), 1, []), (1, .istore_n 1, 2, []), (2, .iload_n 1, 3, []), (3, .bipush (15), 5, []), (5, .if_icmp .ge (86), 8, [91]), (8, .iload_n 1, 9, []), (9, .iconst (1), 10, []), (10, .iadd, 11, []), (11, .istore_n 2, 12, []), (12, .iload_n 2, 13, []), (13, .bipush (15), 15, []), (15, .if_icmp .ge (70), 18, [85]), (18, .aload_n 0, 19, []), (19, .getfield 15, 22, []), (22, .iconst (0), 23, []), (23, .iaload, 24, []), (24, .aload_n 0, 25, []), (25, .getfield 15, 28, []), (28, .iconst (1), 29, []), (29, .iaload, 30, []), (30, .iload_n 1, 31, []), (31, .invokestatic 55, 34, []), (34, .iload_n 2, 35, []), (35, .invokestatic 55, 38, []), (38, .invokestatic 66, 41, []), (41, .istore_n 3, 42, []), (42, .aload_n 0, 43, []), (43, .getfield 15, 46, []), (46, .iconst (0), 47, []), (47, .iaload, 48, []), (48, .iload_n 3, 49, []), (49, .ixor, 50, []), (50, .istore 4, 52, []), (52, .aload_n 0, 53, []), (53, .iload_n 1, 54, []), (54, .iload 4, 56, []), (56, .iload_n 2, 57, []), (57, .iload_n 3, 58, []), (58, .invokevirtual 59, 61, []), (61, .ifCond .eq (18), 64, [79]), (64, .aload_n 0, 65, []), (65, .iload_n 1, 66, []), (66, .iload 4, 68, []), (68, .invokevirtual 63, 71, []), (71, .aload_n 0, 72, []), (72, .iload_n 2, 73, []), (73, .iload_n 3, 74, []), (74, .invokevirtual 63, 77, []), (77, .iconst (1), 78, []), (78, .ireturn, 79, []), (79, .iinc 2 (1), 82, []), (82, .goto (-70), 85, [12]), (85, .iinc 1 (1), 88, []), (88, .goto (-86), 91, [2]), (91, .iconst (0), 92, []), (92, .ireturn, 93, [])]
def jx_b85 : List (Nat × Instr × Nat × List Nat) := [(0, .aload_n 0, 1, []), (1, .getfield 9, 4, []), (4, .iload_n 1, 5, []), (5, .aload_n 0, 6, []), (6, .iload_n 1, 7, []), (7, .invokevirtual 15, 10, []), (10, .iastore, 11, []), (11, .aload_n 0, 12, []), (12, .getfield 9, 15, []), (15, .iload_n 1, 16, []), (16, .iconst (1), 17, []), (17, .iadd, 18, []), (18, .aload_n 0, 19, []), (19, .iload_n 1, 20, []), (20, .invokevirtual 19, 23, []), (23, .iastore, 24, []), (24, .return_, 25, [])]
def jx_b86 : List (Nat × Instr × Nat × List Nat) := [(0, .aload_n 0, 1, []), (1, .getfield 9, 4, []), (4, .iload_n 1, 5, []), (5, .iconst (1), 6, []), (6, .iadd, 7, []), (7, .iaload, 8, []), (8, .aload_n 0, 9, []), (9, .iload_n 1, 10, []), (10, .invokevirtual 19, 13, []), (13, .ixor, 14, []), (14, .istore_n 3, 15, []), (15, .aload_n 0, 16, []), (16, .getfield 9, 19, []), (19, .iload_n 2, 20, []), (20, .iload_n 3, 21, []), (21, .iload_n 2, 22, []), (22, .invokestatic 22, 25, []), (25, .invokestatic 27, 28, []), (28, .iastore, 29, []), (29, .return_, 30, [])]
def jx_b87 : List (Nat × Instr × Nat × List Nat) := [(0, .aload_n 0, 1, []), (1, .getfield 9, 4, []), (4, .iload_n 1, 5, []), (5, .iaload, 6, []), (6, .aload_n 0, 7, []), (7, .iload_n 1, 8, []), (8, .invokevirtual 15, 11, []), (11, .ixor, 12, []), (12, .istore 4, 14, []), (14, .aload_n 0, 15, []), (15, .getfield 9, 18, []), (18, .iload_n 1, 19, []), (19, .iconst (1), 20, []), (20, .iadd, 21, []), (21, .iaload, 22, []), (22, .aload_n 0, 23, []), (23, .iload_n 1, 24, []), (24, .invokevirtual 19, 27, []), (27, .ixor, 28, []), (28, .istore 5, 30, []), (30, .aload_n 0, 31, []), (31, .getfield 9, 34, []), (34, .iload_n 3, 35, []), (35, .iload 4, 37, []), (37, .iload 5, 39, []), (39, .iload_n 2, 40, []), (40, .invokestatic 22, 43, []), (43, .iload_n 3, 44, []), (44, .invokestatic 22, 47, []), (47, .invokestatic 31, 50, []), (50, .iastore, 51, []), (51, .aload_n 0, 52, []), (52, .getfield 9, 55, []), (55, .iload_n 2, 56, []), (56, .iload 4, 58, []), (58, .aload_n 0, 59, []), (59, .getfield 9, 62, []), (62, .iload_n 3, 63, []), (63, .iaload, 64, []), (64, .ixor, 65, []), (65, .iastore, 66, []), (66, .return_, 67, [])]
def jx_b88 : List (Nat × Instr × Nat × List Nat) := [(0, .aload_n 0, 1, []), (1, .getfield 20, 4, []), (4, .ifCond .ne (19), 7, [23]), (7, .aload_n 0, 8, []), (8, .aload_n 1, 9, []), (9, .invokevirtual 44, 12, []), (12, .putfield 24, 15, []), (15, .aload_n 0, 16, []), (16, .aload_n 1, 17, []), (17, .invokevirtual 49, 20, []), (20, .putfield 27, 23, []), (23, .aload_n 1, 24, []), (24, .invokevirtual 44, 27, []), (27, .aload_n 0, 28, []), (28, .getfield 24, 31, []), (31, .if_icmp .ne (14), 34, [45]), (34, .aload_n 1, 35, []), (35, .invokevirtual 49, 38, []), (38, .aload_n 0, 39, []), (39, .getfield 27, 42, []), (42, .if_icmp .eq (5), 45, [47]), (45, .iconst (0), 46, []), (46, .ireturn, 47, []), (47, .aload_n 0, 48, []), (48, .getfield 16, 51, []), (51, .aload_n 1, 52, []), (52, .invokevirtual 51, 55, []), (55, .baload, 56, []), (56, .ifCond .ne (8), 59, [64]), (59, .aload_n 0, 60, []), (60, .aload_n 1, 61, []), (61, .invokevirtual 54, 64, []), (64, .iconst (1), 65, []), (65, .ireturn, 66, [])]
def jx_b89 : List (Nat × Instr × Nat × List Nat) := [(0, .iload_n 3, 1, []), (1, .ifCond .ne (7), 4, [8]), (4, .iload_n 1, 5, []), (5, .goto (51), 8, [56]), (8, .iload_n 3, 9, []), (9, .iconst (1), 10, []), (10, .if_icmp .ne (7), 13, [17]), (13, .iload_n 2, 14, []), (14, .goto (42), 17, [56]), (17, .iload_n 3, 18, []), (18, .iconst (2), 19, []), (19, .if_icmp .ne (13), 22, [32]), (22, .aload_n 0, 23, []), (23, .getfield 55, 26, []), (26, .bipush (16), 28, []), (28, .irem, 29, []), (29, .goto (27), 32, [56]), (32, .iload_n 3, 33, []), (33, .iconst (3), 34, []), (34, .if_icmp .ne (13), 37, [47]), (37, .aload_n 0, 38, []), (38, .getfield 55, 41, []), (41, .bipush (16), 43, []), (43, .idiv, 44, []), (44, .goto (12), 47, [56]), (47, .aload_n 0, 48, []), (48, .iload_n 1, 49, []), (49, .iload_n 2, 50, []), (50, .iload_n 3, 51, []), (51, .iconst (4), 52, []), (52, .isub, 53, []), (53, .invokevirtual 65, 56, []), (56, .ireturn, 57, [])]
def jx_b90 : List (Nat × Instr × Nat × List Nat) := [(0, .aload_n 0, 1, []), (1, .iconst (1), 2, []), (2, .invokevirtual 90, 5, []), (5, .ifCond .ne (31), 8, [36]), (8, .aload_n 0, 9, []), (9, .iconst (2), 10, []), (10, .invokevirtual 90, 13, []), (13, .ifCond .ne (23), 16, [36]), (16, .aload_n 0, 17, []), (17, .iconst (3), 18, []), (18, .invokevirtual 90, 21, []), (21, .ifCond .ne (15), 24, [36]), (24, .aload_n 0, 25, []), (25, .iconst (4), 26, []), (26, .invokevirtual 90, 29, []), (29, .ifCond .ne (7), 32, [36]), (32, .iconst (1), 33, []), (33, .goto (4), 36, [37]), (36, .iconst (0), 37, []), (37, .ireturn, 38, [])]
def jx_b91 : List (Nat × Instr × Nat × List Nat) := [(0, .aload_n 0, 1, []), (1, .aload_n 0, 2, []), (2, .getfield 111, 5, []), (5, .ifCond .eq (14), 8, [19]), (8, .aload_n 0, 9, []), (9, .getfield 111, 12, []), (12, .aload_n 0, 13, []), (13, .getfield 114, 16, []), (16, .if_icmp .ge (7), 19, [23]), (19, .iconst (1), 20, []), (20, .goto (4), 23, [24]), (23, .iconst (0), 24, []), (24, .putfield 51, 27, []), (27, .aload_n 0, 28, []), (28, .getfield 51, 31, []), (31, .ifCond .eq (5), 34, [36]), (34, .iconst (0), 35, []), (35, .ireturn, 36, []), (36, .iconst (-1), 37, []), (37, .istore_n 1, 38, []), (38, .iconst (0), 39, []), (39, .istore_n 2, 40, []), (40, .aload_n 0, 41, []), (41, .getfield 114, 44, []), (44, .iconst (1), 45, []), (45, .isub, 46, []), (46, .istore_n 3, 47, []), (47, .iload_n 3, 48, []), (48, .ifCond .lt (41), 51, [89]), (51, .aload_n 0, 52, []), (52, .getfield 38, 55, []), (55, .iload_n 3, 56, []), (56, .baload, 57, []), (57, .ifCond .eq (7), 60, [64]), (60, .iload_n 1, 61, []), (61, .goto (4), 64, [65]), (64, .iload_n 3, 65, []), (65, .istore_n 1, 66, []), (66, .iload_n 2, 67, []), (67, .aload_n 0, 68, []), (68, .getfield 38, 71, []), (71, .iload_n 3, 72, []), (72, .baload, 73, []), (73, .ifCond .eq (7), 76, [80]), (76, .iconst (0), 77, []), (77, .goto (4), 80, [81]), (80, .iconst (1), 81, []), (81, .iadd, 82, []), (82, .istore_n 2, 83, []), (83, .iinc 3 (-1), 86, []), (86, .goto (-39), 89, [47]), (89, .aload_n 0, 90, []), (90, .aload_n 0, 91, []), (91, .getfield 117, 94, []), (94, .putfield 136, 97, []), (97, .iconst (0), 98, []), (98, .istore_n 3, 99, []), (99, .iload_n 3, 100, []), (100, .bipush (40), 102, []), (102, .if_icmp .ge (175), 105, [277]), (105, .iconst (0), 106, []), (106, .istore 4, 108, []), (108, .iconst (0), 109, []), (109, .istore 5, 111, []), (111, .iload_n 2, 112, []), (112, .iconst (1), 113, []), (113, .if_icmp .ne (20), 116, [133]), (116, .aload_n 0, 117, []), (117, .iload_n 3, 118, []), (118, .iload_n 1, 119, []), (119, .iload 4, 121, []), (121, .invokevirtual 139, 124, []), (124, .ifCond .ne (9), 127, [133]), (127, .iinc 4 (1), 130, []), (130, .goto (-19), 133, [111]), (133, .iload_n 2, 134, []), (134, .iconst (2), 135, []), (135, .if_icmp .ne (54), 138, [189]), (138, .aload_n 0, 139, []), (139, .iload_n 3, 140, []), (140, .iload_n 1, 141, []), (141, .iload 4, 143, []), (143, .iload 5, 145, []), (145, .invokevirtual 142, 148, []), (148, .ifCond .ne (41), 151, [189]), (151, .iload 5, 153, []), (153, .bipush (15), 155, []), (155, .if_icmp .ne (10), 158, [165]), (158, .iload 4, 160, []), (160, .iconst (1), 161, []), (161, .iadd, 162, []), (162, .goto (5), 165, [167]), (165, .iload 4, 167, []), (167, .istore 4, 169, []), (169, .iload 5, 171, []), (171, .bipush (15), 173, []), (173, .if_icmp .ne (7), 176, [180]), (176, .iconst (0), 177, []), (177, .goto (7), 180, [184]), (180, .iload 5, 182, []), (182, .iconst (1), 183, []), (183, .iadd, 184, []), (184, .istore 5, 186, []), (186, .goto (-53), 189, [133]), (189, .iconst (0), 190, []), (190, .istore 6, 192, []), (192, .iload 6, 194, []), (194, .aload_n 0, 195, []), (195, .getfield 114, 198, []), (198, .if_icmp .ge (73), 201, [271]), (201, .bipush (20), 203, []), (203, .iload 6, 205, []), (205, .imul, 206, []), (206, .iload_n 3, 207, []), (207, .iconst (2), 208, []), (208, .idiv, 209, []), (209, .iadd, 210, []), (210, .istore 7, 212, []), (212, .aload_n 0, 213, []), (213, .iload 6, 215, []), (215, .iload_n 3, 216, []), (216, .iload_n 1, 217, []), (217, .iload 4, 219, []), (219, .iload 5, 221, []), (221, .invokevirtual 132, 224, []), (224, .istore 8, 226, []), (226, .iload 7, 228, []), (228, .aload_n 0, 229, []), (229, .getfield 117, 232, []), (232, .if_icmp .ge (33), 235, [265]), (235, .aload_n 0, 236, []), (236, .getfield 44, 239, []), (239, .iload 7, 241, []), (241, .iload_n 3, 242, []), (242, .iconst (2), 243, []), (243, .irem, 244, []), (244, .ifCond .ne (8), 247, [252]), (247, .iload 8, 249, []), (249, .goto (15), 252, [264]), (252, .aload_n 0, 253, []), (253, .getfield 44, 256, []), (256, .iload 7, 258, []), (258, .iaload, 259, []), (259, .iload 8, 261, []), (261, .iconst (4), 262, []), (262, .ishl, 263, []), (263, .ior, 264, []), (264, .iastore, 265, []), (265, .iinc 6 (1), 268, []), (268, .goto (-76), 271, [192]), (271, .iinc 3 (1), 274, []), (274, .goto (-175), 277, [99]), (277, .aload_n 0, 278, []), (278, .getfield 136, 281, []), (281, .ireturn, 282, [])]
def jx_b92 : List (Nat × Instr × Nat × List Nat) := [(0, .aload_n 0, 1, []), (1, .getfield 26, 4, []), (4, .iconst (0), 5, []), (5, .iload_n 1, 6, []), (6, .iastore, 7, []), (7, .aload_n 0, 8, []), (8, .getfield 26, 11, []), (11, .iconst (1), 12, []), (12, .iload_n 2, 13, []), (13, .iastore, 14, []), (14, .aload_n 0, 15, []), (15, .getfield 26, 18, []), (18, .iconst (2), 19, []), (19, .aload_n 0, 20, []), (20, .getfield 13, 23, []), (23, .bipush (16), 25, []), (25, .irem, 26, []), (26, .iastore, 27, []), (27, .aload_n 0, 28, []), (28, .getfield 26, 31, []), (31, .iconst (3), 32, []), (32, .aload_n 0, 33, []), (33, .getfield 13, 36, []), (36, .bipush (16), 38, []), (38, .idiv, 39, []), (39, .iastore, 40, []), (40, .iconst (0), 41, []), (41, .istore_n 3, 42, []), (42, .iload_n 3, 43, []), (43, .bipush (40), 45, []), (45, .if_icmp .ge (64), 48, [109]), (48, .iconst (0), 49, []), (49, .istore 4, 51, []), (51, .iload 4, 53, []), (53, .iload_n 2, 54, []), (54, .if_icmp .ge (25), 57, [79]), (57, .aload_n 0, 58, []), (58, .getfield 39, 61, []), (61, .iload 4, 63, []), (63, .aload_n 0, 64, []), (64, .iload 4, 66, []), (66, .iload_n 3, 67, []), (67, .invokevirtual 157, 70, []), (70, .invokevirtual 160, 73, []), (73, .iinc 4 (1), 76, []), (76, .goto (-25), 79, [51]), (79, .aload_n 0, 80, []), (80, .getfield 39, 83, []), (83, .iload_n 2, 84, []), (84, .invokevirtual 163, 87, []), (87, .aload_n 0, 88, []), (88, .getfield 26, 91, []), (91, .iconst (4), 92, []), (92, .iload_n 3, 93, []), (93, .iadd, 94, []), (94, .aload_n 0, 95, []), (95, .getfield 39, 98, []), (98, .iload_n 1, 99, []), (99, .invokevirtual 167, 102, []), (102, .iastore, 103, []), (103, .iinc 3 (1), 106, []), (106, .goto (-64), 109, [42]), (109, .return_, 110, [])]
def jx_b93 : List (Nat × Instr × Nat × List Nat) := [(0, .iconst (0), 1, []), (1, .istore_n 1, 2, []), (2, .iload_n 1, 3, []), (3, .bipush (17), 5, []), (5, .if_icmp .ge (41), 8, [46]), (8, .aload_n 0, 9, []), (9, .iload_n 1, 10, []), (10, .iconst (0), 11, []), (11, .invokevirtual 23, 14, []), (14, .aload_n 0, 15, []), (15, .bipush (17), 17, []), (17, .iload_n 1, 18, []), (18, .invokevirtual 23, 21, []), (21, .aload_n 0, 22, []), (22, .bipush (17), 24, []), (24, .iload_n 1, 25, []), (25, .isub, 26, []), (26, .bipush (17), 28, []), (28, .invokevirtual 23, 31, []), (31, .aload_n 0, 32, []), (32, .iconst (0), 33, []), (33, .bipush (17), 35, []), (35, .iload_n 1, 36, []), (36, .isub, 37, []), (37, .invokevirtual 23, 40, []), (40, .iinc 1 (1), 43, []), (43, .goto (-41), 46, [2]), (46, .return_, 47, [])]
def jx_b94 : List (Nat × Instr × Nat × List Nat) := [(0, .iconst (0), 1, []), (1, .istore_n 2, 2, []), (2, .iconst (0), 3, []), (3, .istore_n 3, 4, []), (4, .iload_n 3, 5, []), (5, .bipush (17), 7, []), (7, .if_icmp .ge (57), 10, [64]), (10, .iload_n 2, 11, []), (11, .aload_n 0, 12, []), (12, .iload_n 3, 13, []), (13, .iconst (0), 14, []), (14, .iload_n 1, 15, []), (15, .invokevirtual 41, 18, []), (18, .iadd, 19, []), (19, .istore_n 2, 20, []), (20, .iload_n 2, 21, []), (21, .aload_n 0, 22, []), (22, .bipush (17), 24, []), (24, .iload_n 3, 25, []), (25, .iload_n 1, 26, []), (26, .invokevirtual 41, 29, []), (29, .iadd, 30, []), (30, .istore_n 2, 31, []), (31, .iload_n 2, 32, []), (32, .aload_n 0, 33, []), (33, .bipush (17), 35, []), (35, .iload_n 3, 36, []), (36, .isub, 37, []), (37, .bipush (17), 39, []), (39, .iload_n 1, 40, []), (40, .invokevirtual 41, 43, []), (43, .iadd, 44, []), (44, .istore_n 2, 45, []), (45, .iload_n 2, 46, []), (46, .aload_n 0, 47, []), (47, .iconst (0), 48, []), (48, .bipush (17), 50, []), (50, .iload_n 3, 51, []), (51, .isub, 52, []), (52, .iload_n 1, 53, []), (53, .invokevirtual 41, 56, []), (56, .iadd, 57, []), (57, .istore_n 2, 58, []), (58, .iinc 3 (1), 61, []), (61, .goto (-57), 64, [4]), (64, .iload_n 2, 65, []), (65, .ireturn, 66, [])]
def jx_b95 : List (Nat × Instr × Nat × List Nat) := [(0, .aload_n 0, 1, []), (1, .invokevirtual 42, 4, []), (4, .aload_n 0, 5, []), (5, .invokevirtual 45, 8, []), (8, .ifCond .eq (5), 11, [13]), (11, .iconst (0), 12, []), (12, .ireturn, 13, []), (13, .aload_n 0, 14, []), (14, .invokevirtual 49, 17, []), (17, .ifCond .eq (5), 20, [22]), (20, .iconst (1), 21, []), (21, .ireturn, 22, []), (22, .aload_n 0, 23, []), (23, .invokevirtual 52, 26, []), (26, .ifCond .eq (5), 29, [31]), (29, .iconst (2), 30, []), (30, .ireturn, 31, []), (31, .iconst (-1), 32, []), (32, .ireturn, 33, [])]
def jx_b96 : List (Nat × Instr × Nat × List Nat) := [(0, .iconst (0), 1, []), (1, .istore_n 3, 2, []), (2, .iload_n 3, 3, []), (3, .bipush (15), 5, []), (5, .if_icmp .ge (24), 8, [29]), (8, .aload_n 1, 9, []), (9, .iconst (4), 10, []), (10, .iload_n 3, 11, []), (11, .imul, 12, []), (12, .iload_n 2, 13, []), (13, .iadd, 14, []), (14, .aload_n 0, 15, []), (15, .getfield 9, 18, []), (18, .iload_n 3, 19, []), (19, .iaload, 20, []), (20, .invokevirtual 24, 23, []), (23, .iinc 3 (1), 26, []), (26, .goto (-24), 29, [2]), (29, .return_, 30, [])]
def jx_b97 : List (Nat × Instr × Nat × List Nat) := [(0, .iconst (0), 1, []), (1, .istore 4, 3, []), (3, .iload 4, 5, []), (5, .bipush (15), 7, []), (7, .if_icmp .ge (27), 10, [34]), (10, .aload_n 0, 11, []), (11, .getfield 9, 14, []), (14, .iload 4, 16, []), (16, .aload_n 1, 17, []), (17, .iconst (4), 18, []), (18, .iload 4, 20, []), (20, .imul, 21, []), (21, .iload_n 2, 22, []), (22, .iadd, 23, []), (23, .iload_n 3, 24, []), (24, .invokevirtual 30, 27, []), (27, .iastore, 28, []), (28, .iinc 4 (1), 31, []), (31, .goto (-28), 34, [3]), (34, .return_, 35, [])]
def jx_b98 : List (Nat × Instr × Nat × List Nat) := [(0, .iload_n 2, 1, []), (1, .aload_n 0, 2, []), (2, .getfield 24, 5, []), (5, .if_icmp .ge (19), 8, [24]), (8, .aload_n 0, 9, []), (9, .getfield 40, 12, []), (12, .aload_n 0, 13, []), (13, .getfield 24, 16, []), (16, .iload_n 1, 17, []), (17, .iload_n 2, 18, []), (18, .invokevirtual 79, 21, []), (21, .goto (58), 24, [79]), (24, .iload_n 1, 25, []), (25, .aload_n 0, 26, []), (26, .getfield 24, 29, []), (29, .if_icmp .ge (30), 32, [59]), (32, .aload_n 0, 33, []), (33, .getfield 16, 36, []), (36, .aload_n 0, 37, []), (37, .getfield 24, 40, []), (40, .baload, 41, []), (41, .ifCond .eq (18), 44, [59]), (44, .aload_n 0, 45, []), (45, .getfield 40, 48, []), (48, .aload_n 0, 49, []), (49, .getfield 24, 52, []), (52, .iload_n 1, 53, []), (53, .invokevirtual 83, 56, []), (56, .goto (23), 59, [79]), (59, .iload_n 1, 60, []), (60, .aload_n 0, 61, []), (61, .getfield 24, 64, []), (64, .if_icmp .ge (15), 67, [79]), (67, .aload_n 0, 68, []), (68, .getfield 40, 71, []), (71, .aload_n 0, 72, []), (72, .getfield 24, 75, []), (75, .iload_n 1, 76, []), (76, .invokevirtual 86, 79, []), (79, .return_, 80, [])]
def jx_b99 : List (Nat × Instr × Nat × List Nat) := [(0, .aload_n 0, 1, []), (1, .invokevirtual 93, 4, []), (4, .ifCond .eq (5), 7, [9]), (7, .iconst (0), 8, []), (8, .ireturn, 9, []), (9, .iconst (1), 10, []), (10, .istore_n 1, 11, []), (11, .iload_n 1, 12, []), (12, .iconst (5), 13, []), (13, .if_icmp .ge (20), 16, [33]), (16, .aload_n 0, 17, []), (17, .getfield 29, 20, []), (20, .iload_n 1, 21, []), (21, .aload_n 0, 22, []), (22, .iload_n 1, 23, []), (23, .invokevirtual 90, 26, []), (26, .iastore, 27, []), (27, .iinc 1 (1), 30, []), (30, .goto (-19), 33, [11]), (33, .iconst (0), 34, []), (34, .istore_n 1, 35, []), (35, .iload_n 1, 36, []), (36, .bipush (15), 38, []), (38, .if_icmp .ge (52), 41, [90]), (41, .aload_n 0, 42, []), (42, .aload_n 0, 43, []), (43, .getfield 29, 46, []), (46, .iconst (1), 47, []), (47, .iaload, 48, []), (48, .aload_n 0, 49, []), (49, .iload_n 1, 50, []), (50, .invokevirtual 61, 53, []), (53, .invokevirtual 97, 56, []), (56, .istore_n 2, 57, []), (57, .aload_n 0, 58, []), (58, .iload_n 1, 59, []), (59, .iload_n 2, 60, []), (60, .iload_n 1, 61, []), (61, .iconst (0), 62, []), (62, .invokevirtual 100, 65, []), (65, .ifCond .eq (19), 68, [84]), (68, .aload_n 0, 69, []), (69, .getfield 26, 72, []), (72, .iload_n 1, 73, []), (73, .aload_n 0, 74, []), (74, .getfield 26, 77, []), (77, .iload_n 1, 78, []), (78, .iaload, 79, []), (79, .iload_n 2, 80, []), (80, .ixor, 81, []), (81, .iastore, 82, []), (82, .iconst (1), 83, []), (83, .ireturn, 84, []), (84, .iinc 1 (1), 87, []), (87, .goto (-52), 90, [35]), (90, .iconst (0), 91, []), (91, .istore_n 1, 92, []), (92, .iload_n 1, 93, []), (93, .bipush (15), 95, []), (95, .if_icmp .ge (143), 98, [238]), (98, .iload_n 1, 99, []), (99, .iconst (1), 100, []), (100, .iadd, 101, []), (101, .istore_n 2, 102, []), (102, .iload_n 2, 103, []), (103, .bipush (15), 105, []), (105, .if_icmp .ge (127), 108, [232]), (108, .aload_n 0, 109, []), (109, .aload_n 0, 110, []), (110, .getfield 29, 113, []), (113, .iconst (2), 114, []), (114, .iaload, 115, []), (115, .aload_n 0, 116, []), (116, .aload_n 0, 117, []), (117, .getfield 29, 120, []), (120, .iconst (1), 121, []), (121, .iaload, 122, []), (122, .aload_n 0, 123, []), (123, .iload_n 1, 124, []), (124, .invokevirtual 61, 127, []), (127, .invokevirtual 47, 130, []), (130, .ixor, 131, []), (131, .aload_n 0, 132, []), (132, .aload_n 0, 133, []), (133, .iload_n 2, 134, []), (134, .invokevirtual 61, 137, []), (137, .aload_n 0, 138, []), (138, .iload_n 2, 139, []), (139, .invokevirtual 61, 142, []), (142, .aload_n 0, 143, []), (143, .iload_n 1, 144, []), (144, .invokevirtual 61, 147, []), (147, .ixor, 148, []), (148, .invokevirtual 47, 151, []), (151, .invokevirtual 97, 154, []), (154, .istore_n 3, 155, []), (155, .aload_n 0, 156, []), (156, .aload_n 0, 157, []), (157, .getfield 29, 160, []), (160, .iconst (1), 161, []), (161, .iaload, 162, []), (162, .aload_n 0, 163, []), (163, .iload_n 3, 164, []), (164, .aload_n 0, 165, []), (165, .iload_n 2, 166, []), (166, .invokevirtual 61, 169, []), (169, .invokevirtual 47, 172, []), (172, .ixor, 173, []), (173, .aload_n 0, 174, []), (174, .iload_n 1, 175, []), (175, .invokevirtual 61, 178, []), (178, .invokevirtual 97, 181, []), (181, .istore 4, 183, []), (183, .aload_n 0, 184, []), (184, .iload_n 1, 185, []), (185, .iload 4, 187, []), (187, .iload_n 2, 188, []), (188, .iload_n 3, 189, []), (189, .invokevirtual 100, 192, []), (192, .ifCond .eq (34), 195, [226]), (195, .aload_n 0, 196, []), (196, .getfield 26, 199, []), (199, .iload_n 1, 200, []), (200, .aload_n 0, 201, []), (201, .getfield 26, 204, []), (204, .iload_n 1, 205, []), (205, .iaload, 206, []), (206, .iload 4, 208, []), (208, .ixor, 209, []), (209, .iastore, 210, []), (210, .aload_n 0, 211, []), (211, .getfield 26, 214, []), (214, .iload_n 2, 215, []), (215, .aload_n 0, 216, []), (216, .getfield 26, 219, []), (219, .iload_n 2, 220, []), (220, .iaload, 221, []), (221, .iload_n 3, 222, []), (222, .ixor, 223, []), (223, .iastore, 224, []), (224, .iconst (2), 225, []), (225, .ireturn, 226, []), (226, .iinc 2 (1), 229, []), (229, .goto (-127), 232, [102]), (232, .iinc 1 (1), 235, []), (235, .goto (-143), 238, [92]), (238, .iconst (-1), 239, []), (239, .ireturn, 240, [])]
def jx_b100 : List (Nat × Instr × Nat × List Nat) := [(0, .iconst (0), 1, []), (1, .istore_n 3, 2, []), (2, .iload_n 3, 3, []), (3, .bipush (18), 5, []), (5, .if_icmp .ge (92), 8, [97]), (8, .iconst (0), 9, []), (9, .istore 4, 11, []), (11, .iload 4, 13, []), (13, .bipush (18), 15, []), (15, .if_icmp .ge (76), 18, [91]), (18, .iload 4, 20, []), (20, .ifCond .eq (20), 23, [40]), (23, .iload_n 3, 24, []), (24, .ifCond .eq (16), 27, [40]), (27, .iload 4, 29, []), (29, .bipush (17), 31, []), (31, .if_icmp .eq (9), 34, [40]), (34, .iload_n 3, 35, []), (35, .bipush (17), 37, []), (37, .if_icmp .ne (7), 40, [44]), (40, .iconst (1), 41, []), (41, .goto (4), 44, [45]), (44, .iconst (0), 45, []), (45, .istore 5, 47, []), (47, .aload_n 0, 48, []), (48, .getfield 13, 51, []), (51, .sipush (324), 54, []), (54, .iload_n 1, 55, []), (55, .imul, 56, []), (56, .bipush (18), 58, []), (58, .iload_n 3, 59, []), (59, .imul, 60, []), (60, .iadd, 61, []), (61, .iload 4, 63, []), (63, .iadd, 64, []), (64, .iload 5, 66, []), (66, .ifCond .eq (17), 69, [83]), (69, .aload_n 0, 70, []), (70, .iload 4, 72, []), (72, .iload_n 3, 73, []), (73, .invokevirtual 69, 76, []), (76, .ifCond .eq (7), 79, [83]), (79, .iconst (1), 80, []), (80, .goto (4), 83, [84]), (83, .iconst (0), 84, []), (84, .bastore, 85, []), (85, .iinc 4 (1), 88, []), (88, .goto (-77), 91, [11]), (91, .iinc 3 (1), 94, []), (94, .goto (-92), 97, [2]), (97, .iconst (0), 98, []), (98, .istore_n 3, 99, []), (99, .iload_n 3, 100, []), (100, .iconst (4), 101, []), (101, .if_icmp .ge (219), 104, [320]), (104, .iconst (4), 105, []), (105, .istore 4, 107, []), (107, .iload 4, 109, []), (109, .bipush (15), 111, []), (111, .if_icmp .ge (31), 114, [142]), (114, .aload_n 0, 115, []), (115, .getfield 26, 118, []), (118, .iload 4, 120, []), (120, .aload_n 0, 121, []), (121, .iload_n 1, 122, []), (122, .iload_n 2, 123, []), (123, .bipush (11), 125, []), (125, .iload_n 3, 126, []), (126, .imul, 127, []), (127, .iload 4, 129, []), (129, .iadd, 130, []), (130, .iconst (4), 131, []), (131, .isub, 132, []), (132, .invokevirtual 73, 135, []), (135, .iastore, 136, []), (136, .iinc 4 (1), 139, []), (139, .goto (-32), 142, [107]), (142, .aload_n 0, 143, []), (143, .invokevirtual 76, 146, []), (146, .iconst (0), 147, []), (147, .istore 4, 149, []), (149, .iload 4, 151, []), (151, .bipush (15), 153, []), (153, .if_icmp .ge (161), 156, [314]), (156, .iconst (4), 157, []), (157, .iload 4, 159, []), (159, .imul, 160, []), (160, .iload_n 3, 161, []), (161, .iadd, 162, []), (162, .istore 5, 164, []), (164, .sipush (324), 167, []), (167, .iload_n 1, 168, []), (168, .imul, 169, []), (169, .bipush (18), 171, []), (171, .iconst (1), 172, []), (172, .iconst (2), 173, []), (173, .iload 5, 175, []), (175, .bipush (8), 177, []), (177, .idiv, 178, []), (178, .imul, 179, []), (179, .iadd, 180, []), (180, .imul, 181, []), (181, .iadd, 182, []), (182, .iconst (1), 183, []), (183, .iadd, 184, []), (184, .iconst (2), 185, []), (185, .iload 5, 187, []), (187, .bipush (8), 189, []), (189, .irem, 190, []), (190, .imul, 191, []), (191, .iadd, 192, []), (192, .istore 6, 194, []), (194, .aload_n 0, 195, []), (195, .getfield 13, 198, []), (198, .iload 6, 200, []), (200, .aload_n 0, 201, []), (201, .getfield 26, 204, []), (204, .iload 4, 206, []), (206, .iaload, 207, []), (207, .iconst (1), 208, []), (208, .iand, 209, []), (209, .iconst (1), 210, []), (210, .if_icmp .ne (7), 213, [217]), (213, .iconst (1), 214, []), (214, .goto (4), 217, [218]), (217, .iconst (0), 218, []), (218, .bastore, 219, []), (219, .aload_n 0, 220, []), (220, .getfield 13, 223, []), (223, .iload 6, 225, []), (225, .iconst (1), 226, []), (226, .iadd, 227, []), (227, .aload_n 0, 228, []), (228, .getfield 26, 231, []), (231, .iload 4, 233, []), (233, .iaload, 234, []), (234, .iconst (1), 235, []), (235, .ishr, 236, []), (236, .iconst (1), 237, []), (237, .iand, 238, []), (238, .iconst (1), 239, []), (239, .if_icmp .ne (7), 242, [246]), (242, .iconst (1), 243, []), (243, .goto (4), 246, [247]), (246, .iconst (0), 247, []), (247, .bastore, 248, []), (248, .aload_n 0, 249, []), (249, .getfield 13, 252, []), (252, .iload 6, 254, []), (254, .bipush (18), 256, []), (256, .iadd, 257, []), (257, .aload_n 0, 258, []), (258, .getfield 26, 261, []), (261, .iload 4, 263, []), (263, .iaload, 264, []), (264, .iconst (2), 265, []), (265, .ishr, 266, []), (266, .iconst (1), 267, []), (267, .iand, 268, []), (268, .iconst (1), 269, []), (269, .if_icmp .ne (7), 272, [276]), (272, .iconst (1), 273, []), (273, .goto (4), 276, [277]), (276, .iconst (0), 277, []), (277, .bastore, 278, []), (278, .aload_n 0, 279, []), (279, .getfield 13, 282, []), (282, .iload 6, 284, []), (284, .bipush (19), 286, []), (286, .iadd, 287, []), (287, .aload_n 0, 288, []), (288, .getfield 26, 291, []), (291, .iload 4, 293, []), (293, .iaload, 294, []), (294, .iconst (3), 295, []), (295, .ishr, 296, []), (296, .iconst (1), 297, []), (297, .iand, 298, []), (298, .iconst (1), 299, []), (299, .if_icmp .ne (7), 302, [306]), (302, .iconst (1), 303, []), (303, .goto (4), 306, [307]), (306, .iconst (0), 307, []), (307, .bastore, 308, []), (308, .iinc 4 (1), 311, []), (311, .goto (-162), 314, [149]), (314, .iinc 3 (1), 317, []), (317, .goto (-218), 320, [99]), (320, .return_, 321, [])]
def jx_b101 : List (Nat × Instr × Nat × List Nat) := [(0, .aload_n 1, 1, []), (1, .invokevirtual 170, 4, []), (4, .aload_n 1, 5, []), (5, .invokevirtual 173, 8, []), (8, .iconst (0), 9, []), (9, .istore_n 2, 10, []), (10, .iload_n 2, 11, []), (11, .iconst (4), 12, []), (12, .if_icmp .ge (37), 15, [49]), (15, .aload_n 0, 16, []), (16, .getfield 32, 19, []), (19, .aload_n 0, 20, []), (20, .getfield 26, 23, []), (23, .iload_n 2, 24, []), (24, .invokevirtual 176, 27, []), (27, .aload_n 0, 28, []), (28, .getfield 32, 31, []), (31, .invokevirtual 180, 34, []), (34, .aload_n 0, 35, []), (35, .getfield 32, 38, []), (38, .aload_n 1, 39, []), (39, .iload_n 2, 40, []), (40, .invokevirtual 183, 43, []), (43, .iinc 2 (1), 46, []), (46, .goto (-36), 49, [10]), (49, .return_, 50, [])]
def jx_b102 : List (Nat × Instr × Nat × List Nat) := [(0, .iconst (1), 1, []), (1, .istore_n 3, 2, []), (2, .iconst (0), 3, []), (3, .istore 4, 5, []), (5, .iload 4, 7, []), (7, .iconst (4), 8, []), (8, .if_icmp .ge (68), 11, [76]), (11, .aload_n 0, 12, []), (12, .getfield 21, 15, []), (15, .aload_n 1, 16, []), (16, .iload 4, 18, []), (18, .iload_n 2, 19, []), (19, .invokevirtual 46, 22, []), (22, .aload_n 0, 23, []), (23, .getfield 15, 26, []), (26, .iload 4, 28, []), (28, .aload_n 0, 29, []), (29, .getfield 21, 32, []), (32, .invokevirtual 50, 35, []), (35, .iastore, 36, []), (36, .aload_n 0, 37, []), (37, .getfield 21, 40, []), (40, .aload_n 0, 41, []), (41, .getfield 9, 44, []), (44, .iload 4, 46, []), (46, .invokevirtual 54, 49, []), (49, .iload_n 3, 50, []), (50, .ifCond .eq (18), 53, [68]), (53, .aload_n 0, 54, []), (54, .getfield 15, 57, []), (57, .iload 4, 59, []), (59, .iaload, 60, []), (60, .iconst (-1), 61, []), (61, .if_icmp .eq (7), 64, [68]), (64, .iconst (1), 65, []), (65, .goto (4), 68, [69]), (68, .iconst (0), 69, []), (69, .istore_n 3, 70, []), (70, .iinc 4 (1), 73, []), (73, .goto (-68), 76, [5]), (76, .iload_n 3, 77, []), (77, .ireturn, 78, [])]
def jx_b103 : List (Nat × Instr × Nat × List Nat) := [(0, .iload_n 1, 1, []), (1, .istore_n 2, 2, []), (2, .aload_n 0, 3, []), (3, .iload_n 1, 4, []), (4, .invokevirtual 29, 7, []), (7, .istore_n 3, 8, []), (8, .iconst (1), 9, []), (9, .istore 4, 11, []), (11, .iload 4, 13, []), (13, .iconst (4), 14, []), (14, .if_icmp .ge (37), 17, [51]), (17, .iload_n 1, 18, []), (18, .iload 4, 20, []), (20, .iadd, 21, []), (21, .iconst (4), 22, []), (22, .irem, 23, []), (23, .istore 5, 25, []), (25, .aload_n 0, 26, []), (26, .iload 5, 28, []), (28, .invokevirtual 29, 31, []), (31, .istore 6, 33, []), (33, .iload 6, 35, []), (35, .iload_n 3, 36, []), (36, .if_icmp .ge (9), 39, [45]), (39, .iload 5, 41, []), (41, .istore_n 2, 42, []), (42, .iload 6, 44, []), (44, .istore_n 3, 45, []), (45, .iinc 4 (1), 48, []), (48, .goto (-37), 51, [11]), (51, .iload_n 2, 52, []), (52, .ireturn, 53, [])]
def jx_b104 : List (Nat × Instr × Nat × List Nat) := [(0, .aload_n 0, 1, []), (1, .iconst (0), 2, []), (2, .invokevirtual 58, 5, []), (5, .istore_n 1, 6, []), (6, .aload_n 0, 7, []), (7, .iload_n 1, 8, []), (8, .iconst (1), 9, []), (9, .iadd, 10, []), (10, .invokevirtual 58, 13, []), (13, .istore_n 2, 14, []), (14, .iconst (0), 15, []), (15, .istore_n 3, 16, []), (16, .iload_n 3, 17, []), (17, .bipush (40), 19, []), (19, .if_icmp .ge (25), 22, [44]), (22, .aload_n 0, 23, []), (23, .iload_n 3, 24, []), (24, .invokevirtual 62, 27, []), (27, .aload_n 0, 28, []), (28, .iload_n 1, 29, []), (29, .iload_n 2, 30, []), (30, .invokevirtual 66, 33, []), (33, .aload_n 0, 34, []), (34, .iload_n 3, 35, []), (35, .invokevirtual 70, 38, []), (38, .iinc 3 (1), 41, []), (41, .goto (-25), 44, [16]), (44, .aload_n 0, 45, []), (45, .aload_n 0, 46, []), (46, .getfield 27, 49, []), (49, .putfield 34, 52, []), (52, .aload_n 0, 53, []), (53, .getfield 27, 56, []), (56, .ireturn, 57, [])]
def jx_b105 : List (Nat × Instr × Nat × List Nat) := [(0, .aload_n 0, 1, []), (1, .aload_n 0, 2, []), (2, .getfield 55, 5, []), (5, .ifCond .ne (7), 8, [12]), (8, .iconst (1), 9, []), (9, .goto (4), 12, [13]), (12, .iconst (0), 13, []), (13, .putfield 51, 16, []), (16, .aload_n 0, 17, []), (17, .getfield 51, 20, []), (20, .ifCond .eq (5), 23, [25]), (23, .iconst (0), 24, []), (24, .ireturn, 25, []), (25, .aload_n 0, 26, []), (26, .getfield 55, 29, []), (29, .bipush (19), 31, []), (31, .iadd, 32, []), (32, .bipush (20), 34, []), (34, .idiv, 35, []), (35, .istore_n 1, 36, []), (36, .aload_n 0, 37, []), (37, .iload_n 1, 38, []), (38, .iconst (2), 39, []), (39, .iadd, 40, []), (40, .putfield 79, 43, []), (43, .iconst (0), 44, []), (44, .istore_n 2, 45, []), (45, .iload_n 2, 46, []), (46, .aload_n 0, 47, []), (47, .getfield 79, 50, []), (50, .if_icmp .ge (15), 53, [65]), (53, .aload_n 0, 54, []), (54, .iload_n 2, 55, []), (55, .iload_n 1, 56, []), (56, .invokevirtual 82, 59, []), (59, .iinc 2 (1), 62, []), (62, .goto (-17), 65, [45]), (65, .aload_n 0, 66, []), (66, .getfield 79, 69, []), (69, .ireturn, 70, [])]
def jx_b106 : List (Nat × Instr × Nat × List Nat) := [(0, .iconst (1), 1, []), (1, .istore_n 1, 2, []), (2, .iconst (0), 3, []), (3, .istore_n 2, 4, []), (4, .iload_n 2, 5, []), (5, .iconst (4), 6, []), (6, .if_icmp .ge (161), 9, [167]), (9, .iconst (0), 10, []), (10, .istore_n 3, 11, []), (11, .iload_n 3, 12, []), (12, .bipush (15), 14, []), (14, .if_icmp .ge (85), 17, [99]), (17, .iconst (4), 18, []), (18, .iload_n 3, 19, []), (19, .imul, 20, []), (20, .iload_n 2, 21, []), (21, .iadd, 22, []), (22, .istore 4, 24, []), (24, .bipush (18), 26, []), (26, .iconst (1), 27, []), (27, .iconst (2), 28, []), (28, .iload 4, 30, []), (30, .bipush (8), 32, []), (32, .idiv, 33, []), (33, .imul, 34, []), (34, .iadd, 35, []), (35, .imul, 36, []), (36, .iconst (1), 37, []), (37, .iadd, 38, []), (38, .iconst (2), 39, []), (39, .iload 4, 41, []), (41, .bipush (8), 43, []), (43, .irem, 44, []), (44, .imul, 45, []), (45, .iadd, 46, []), (46, .istore 5, 48, []), (48, .aload_n 0, 49, []), (49, .getfield 26, 52, []), (52, .iload_n 3, 53, []), (53, .aload_n 0, 54, []), (54, .iload 5, 56, []), (56, .iconst (0), 57, []), (57, .invokevirtual 104, 60, []), (60, .aload_n 0, 61, []), (61, .iload 5, 63, []), (63, .iconst (1), 64, []), (64, .iadd, 65, []), (65, .iconst (1), 66, []), (66, .invokevirtual 104, 69, []), (69, .ior, 70, []), (70, .aload_n 0, 71, []), (71, .iload 5, 73, []), (73, .bipush (18), 75, []), (75, .iadd, 76, []), (76, .iconst (2), 77, []), (77, .invokevirtual 104, 80, []), (80, .ior, 81, []), (81, .aload_n 0, 82, []), (82, .iload 5, 84, []), (84, .bipush (19), 86, []), (86, .iadd, 87, []), (87, .iconst (3), 88, []), (88, .invokevirtual 104, 91, []), (91, .ior, 92, []), (92, .iastore, 93, []), (93, .iinc 3 (1), 96, []), (96, .goto (-85), 99, [11]), (99, .aload_n 0, 100, []), (100, .getfield 35, 103, []), (103, .iload_n 2, 104, []), (104, .aload_n 0, 105, []), (105, .invokevirtual 107, 108, []), (108, .iastore, 109, []), (109, .iload_n 1, 110, []), (110, .ifCond .eq (16), 113, [126]), (113, .aload_n 0, 114, []), (114, .getfield 35, 117, []), (117, .iload_n 2, 118, []), (118, .iaload, 119, []), (119, .ifCond .lt (7), 122, [126]), (122, .iconst (1), 123, []), (123, .goto (4), 126, [127]), (126, .iconst (0), 127, []), (127, .istore_n 1, 128, []), (128, .iconst (4), 129, []), (129, .istore_n 3, 130, []), (130, .iload_n 3, 131, []), (131, .bipush (15), 133, []), (133, .if_icmp .ge (28), 136, [161]), (136, .aload_n 0, 137, []), (137, .getfield 32, 140, []), (140, .bipush (11), 142, []), (142, .iload_n 2, 143, []), (143, .imul, 144, []), (144, .iload_n 3, 145, []), (145, .iadd, 146, []), (146, .iconst (4), 147, []), (147, .isub, 148, []), (148, .aload_n 0, 149, []), (149, .getfield 26, 152, []), (152, .iload_n 3, 153, []), (153, .iaload, 154, []), (154, .iastore, 155, []), (155, .iinc 3 (1), 158, []), (158, .goto (-28), 161, [130]), (161, .iinc 2 (1), 164, []), (164, .goto (-160), 167, [4]), (167, .iload_n 1, 168, []), (168, .ireturn, 169, [])]
def jx_b107 : List (Nat × Instr × Nat × List Nat) := [(0, .aload_n 0, 1, []), (1, .getfield 13, 4, []), (4, .ifCond .ne (13), 7, [17]), (7, .new 65, 10, []), (10, .dup, 11, []), (11, .ldc 70, 13, []), (13, .invokespecial 69, 16, []), (16, .athrow, 17, []), (17, .aload_n 0, 18, []), (18, .getfield 13, 21, []), (21, .bipush (20), 23, []), (23, .iadd, 24, []), (24, .iconst (1), 25, []), (25, .isub, 26, []), (26, .bipush (20), 28, []), (28, .idiv, 29, []), (29, .istore_n 1, 30, []), (30, .aload_n 0, 31, []), (31, .iload_n 1, 32, []), (32, .iconst (2), 33, []), (33, .iadd, 34, []), (34, .putfield 23, 37, []), (37, .iconst (0), 38, []), (38, .istore_n 2, 39, []), (39, .iload_n 2, 40, []), (40, .aload_n 0, 41, []), (41, .getfield 23, 44, []), (44, .if_icmp .ge (25), 47, [69]), (47, .aload_n 0, 48, []), (48, .iload_n 2, 49, []), (49, .iload_n 1, 50, []), (50, .invokevirtual 72, 53, []), (53, .aload_n 0, 54, []), (54, .aload_n 0, 55, []), (55, .getfield 19, 58, []), (58, .iload_n 2, 59, []), (59, .aaload, 60, []), (60, .invokevirtual 76, 63, []), (63, .iinc 2 (1), 66, []), (66, .goto (-27), 69, [39]), (69, .aload_n 0, 70, []), (70, .getfield 23, 73, []), (73, .ireturn, 74, [])]
def jx_b108 : List (Nat × Instr × Nat × List Nat) := [(0, .aload_n 0, 1, []), (1, .getfield 53, 4, []), (4, .invokevirtual 134, 7, []), (7, .ifCond .ne (13), 10, [20]), (10, .new 65, 13, []), (13, .dup, 14, []), (14, .ldc 138, 16, []), (16, .invokespecial 69, 19, []), (19, .athrow, 20, []), (20, .aload_n 0, 21, []), (21, .getfield 53, 24, []), (24, .invokevirtual 140, 27, []), (27, .ireturn, 28, [])]
def jx_b109 : List (Nat × Instr × Nat × List Nat) := [(0, .aload_n 1, 1, []), (1, .iload_n 2, 2, []), (2, .invokestatic 25, 5, []), (5, .istore_n 3, 6, []), (6, .aload_n 1, 7, []), (7, .iload_n 3, 8, []), (8, .invokevirtual 29, 11, []), (11, .bipush (8), 13, []), (13, .if_icmp .le (9), 16, [22]), (16, .aload_n 0, 17, []), (17, .invokevirtual 35, 20, []), (20, .iconst (0), 21, []), (21, .ireturn, 22, []), (22, .aload_n 0, 23, []), (23, .aload_n 1, 24, []), (24, .iload_n 3, 25, []), (25, .invokevirtual 38, 28, []), (28, .ifCond .eq (14), 31, [42]), (31, .aload_n 0, 32, []), (32, .invokevirtual 42, 35, []), (35, .ifCond .eq (7), 38, [42]), (38, .iconst (1), 39, []), (39, .goto (4), 42, [43]), (42, .iconst (0), 43, []), (43, .ireturn, 44, [])]
def jx_b110 : List (Nat × Instr × Nat × List Nat) := [(0, .aload_n 0, 1, []), (1, .iload_n 1, 2, []), (2, .ifCond .lt (20), 5, [22]), (5, .iload_n 1, 6, []), (6, .aload_n 0, 7, []), (7, .getfield 79, 10, []), (10, .if_icmp .ge (12), 13, [22]), (13, .iload_n 2, 14, []), (14, .ifCond .lt (8), 17, [22]), (17, .iload_n 2, 18, []), (18, .iconst (3), 19, []), (19, .if_icmp .le (7), 22, [26]), (22, .iconst (1), 23, []), (23, .goto (4), 26, [27]), (26, .iconst (0), 27, []), (27, .putfield 51, 30, []), (30, .aload_n 0, 31, []), (31, .getfield 51, 34, []), (34, .ifCond .eq (5), 37, [39]), (37, .iconst (0), 38, []), (38, .ireturn, 39, []), (39, .iconst (0), 40, []), (40, .istore_n 3, 41, []), (41, .iload_n 3, 42, []), (42, .sipush (324), 45, []), (45, .if_icmp .ge (27), 48, [72]), (48, .aload_n 0, 49, []), (49, .getfield 20, 52, []), (52, .iload_n 3, 53, []), (53, .aload_n 0, 54, []), (54, .getfield 13, 57, []), (57, .sipush (324), 60, []), (60, .iload_n 1, 61, []), (61, .imul, 62, []), (62, .iload_n 3, 63, []), (63, .iadd, 64, []), (64, .baload, 65, []), (65, .bastore, 66, []), (66, .iinc 3 (1), 69, []), (69, .goto (-28), 72, [41]), (72, .iconst (0), 73, []), (73, .istore_n 3, 74, []), (74, .iload_n 3, 75, []), (75, .iload_n 2, 76, []), (76, .if_icmp .ge (13), 79, [89]), (79, .aload_n 0, 80, []), (80, .invokevirtual 120, 83, []), (83, .iinc 3 (1), 86, []), (86, .goto (-12), 89, [74]), (89, .iconst (0), 90, []), (90, .istore_n 3, 91, []), (91, .sipush (999), 94, []), (94, .istore 4, 96, []), (96, .iconst (0), 97, []), (97, .istore 5, 99, []), (99, .iload 5, 101, []), (101, .iconst (4), 102, []), (102, .if_icmp .ge (49), 105, [151]), (105, .aload_n 0, 106, []), (106, .invokevirtual 123, 109, []), (109, .istore 6, 111, []), (111, .iload 6, 113, []), (113, .iload 4, 115, []), (115, .if_icmp .ge (8), 118, [123]), (118, .iload 5, 120, []), (120, .goto (4), 123, [124]), (123, .iload_n 3, 124, []), (124, .istore_n 3, 125, []), (125, .iload 6, 127, []), (127, .iload 4, 129, []), (129, .if_icmp .ge (8), 132, [137]), (132, .iload 6, 134, []), (134, .goto (5), 137, [139]), (137, .iload 4, 139, []), (139, .istore 4, 141, []), (141, .aload_n 0, 142, []), (142, .invokevirtual 120, 145, []), (145, .iinc 5 (1), 148, []), (148, .goto (-49), 151, [99]), (151, .iconst (0), 152, []), (152, .istore 5, 154, []), (154, .iload 5, 156, []), (156, .iconst (4), 157, []), (157, .if_icmp .ge (18), 160, [175]), (160, .aload_n 0, 161, []), (161, .getfield 35, 164, []), (164, .iload 5, 166, []), (166, .bipush (-2), 168, []), (168, .iastore, 169, []), (169, .iinc 5 (1), 172, []), (172, .goto (-18), 175, [154]), (175, .iload 4, 177, []), (177, .bipush (8), 179, []), (179, .if_icmp .le (5), 182, [184]), (182, .iconst (-1), 183, []), (183, .ireturn, 184, []), (184, .iconst (0), 185, []), (185, .istore 5, 187, []), (187, .iload 5, 189, []), (189, .iload_n 3, 190, []), (190, .if_icmp .ge (13), 193, [203]), (193, .aload_n 0, 194, []), (194, .invokevirtual 120, 197, []), (197, .iinc 5 (1), 200, []), (200, .goto (-13), 203, [187]), (203, .aload_n 0, 204, []), (204, .invokevirtual 126, 207, []), (207, .ifCond .eq (10), 210, [217]), (210, .aload_n 0, 211, []), (211, .invokevirtual 129, 214, []), (214, .goto (4), 217, [218]), (217, .iconst (-1), 218, []), (218, .ireturn, 219, [])]
def jx_b111 : List (Nat × Instr × Nat × List Nat) := [(0, .aload_n 0, 1, []), (1, .iload_n 1, 2, []), (2, .invokevirtual 105, 5, []), (5, .ifCond .ne (13), 8, [18]), (8, .new 58, 11, []), (11, .dup, 12, []), (12, .ldc 109, 14, []), (14, .invokespecial 62, 17, []), (17, .athrow, 18, []), (18, .iload_n 2, 19, []), (19, .ifCond .lt (8), 22, [27]), (22, .iload_n 2, 23, []), (23, .iconst (4), 24, []), (24, .if_icmp .lt (13), 27, [37]), (27, .new 58, 30, []), (30, .dup, 31, []), (31, .ldc 111, 33, []), (33, .invokespecial 62, 36, []), (36, .athrow, 37, []), (37, .aload_n 0, 38, []), (38, .getfield 46, 41, []), (41, .aload_n 0, 42, []), (42, .getfield 19, 45, []), (45, .iload_n 1, 46, []), (46, .aaload, 47, []), (47, .iload_n 2, 48, []), (48, .invokevirtual 113, 51, []), (51, .ifCond .ne (5), 54, [56]), (54, .iconst (-1), 55, []), (55, .ireturn, 56, []), (56, .aload_n 0, 57, []), (57, .getfield 53, 60, []), (60, .aload_n 0, 61, []), (61, .getfield 46, 64, []), (64, .invokevirtual 117, 67, []), (67, .ifCond .eq (13), 70, [80]), (70, .aload_n 0, 71, []), (71, .getfield 46, 74, []), (74, .invokevirtual 121, 77, []), (77, .goto (5), 80, [82]), (80, .bipush (-2), 82, []), (82, .ireturn, 83, [])]
def jx_b112 : List (Nat × Instr × Nat × List Nat) := [(0, .aload_n 2, 1, []), (1, .iconst (0), 2, []), (2, .aload_n 0, 3, []), (3, .iload_n 1, 4, []), (4, .invokevirtual 7, 7, []), (7, .i2l, 8, []), (8, .lastore, 9, []), (9, .goto (9), 12, [18]), (12, .astore_n 3, 13, []), (13, .iconst (1), 14, []), (14, .ireturn, 15, []), (15, .astore_n 3, 16, []), (16, .iconst (2), 17, []), (17, .ireturn, 18, []), (18, .iconst (0), 19, []), (19, .ireturn, 20, [])]
def jx_b113 : List (Nat × Instr × Nat × List Nat) := [(0, .aload_n 1, 1, []), (1, .iconst (0), 2, []), (2, .aload_n 0, 3, []), (3, .invokevirtual 17, 6, []), (6, .i2l, 7, []), (7, .lastore, 8, []), (8, .goto (6), 11, [14]), (11, .astore_n 2, 12, []), (12, .iconst (1), 13, []), (13, .ireturn, 14, []), (14, .iconst (0), 15, []), (15, .ireturn, 16, [])]
def jx_b114 : List (Nat × Instr × Nat × List Nat) := [(0, .aload 4, 2, []), (2, .iconst (0), 3, []), (3, .aload_n 0, 4, []), (4, .iload_n 1, 5, []), (5, .iload_n 2, 6, []), (6, .iload_n 3, 7, []), (7, .invokevirtual 21, 10, []), (10, .ifCond .eq (7), 13, [17]), (13, .lconst 1, 14, []), (14, .goto (4), 17, [18]), (17, .lconst 0, 18, []), (18, .lastore, 19, []), (19, .goto (7), 22, [26]), (22, .astore 5, 24, []), (24, .iconst (1), 25, []), (25, .ireturn, 26, []), (26, .iconst (0), 27, []), (27, .ireturn, 28, [])]
def jx_b115 : List (Nat × Instr × Nat × List Nat) := [(0, .aload 7, 2, []), (2, .iconst (0), 3, []), (3, .aload_n 0, 4, []), (4, .iload_n 1, 5, []), (5, .iload_n 2, 6, []), (6, .iload_n 3, 7, []), (7, .iload 4, 9, []), (9, .iload 5, 11, []), (11, .iload 6, 13, []), (13, .invokevirtual 25, 16, []), (16, .i2l, 17, []), (17, .lastore, 18, []), (18, .goto (7), 21, [25]), (21, .astore 8, 23, []), (23, .iconst (1), 24, []), (24, .ireturn, 25, []), (25, .iconst (0), 26, []), (26, .ireturn, 27, [])]
def jx_b116 : List (Nat × Instr × Nat × List Nat) := [(0, .aload_n 0, 1, []), (1, .iload_n 1, 2, []), (2, .iload_n 2, 3, []), (3, .iload_n 3, 4, []), (4, .invokevirtual 29, 7, []), (7, .goto (7), 10, [14]), (10, .astore 4, 12, []), (12, .iconst (1), 13, []), (13, .ireturn, 14, []), (14, .iconst (0), 15, []), (15, .ireturn, 16, [])]
def jx_b117 : List (Nat × Instr × Nat × List Nat) := [(0, .aload_n 3, 1, []), (1, .iconst (0), 2, []), (2, .aload_n 0, 3, []), (3, .iload_n 1, 4, []), (4, .iload_n 2, 5, []), (5, .invokevirtual 33, 8, []), (8, .i2l, 9, []), (9, .lastore, 10, []), (10, .goto (7), 13, [17]), (13, .astore 4, 15, []), (15, .iconst (1), 16, []), (16, .ireturn, 17, []), (17, .iconst (0), 18, []), (18, .ireturn, 19, [])]
def jx_b118 : List (Nat × Instr × Nat × List Nat) := [(0, .aload_n 2, 1, []), (1, .iconst (0), 2, []), (2, .aload_n 0, 3, []), (3, .iload_n 1, 4, []), (4, .invokevirtual 37, 7, []), (7, .i2l, 8, []), (8, .lastore, 9, []), (9, .goto (6), 12, [15]), (12, .astore_n 3, 13, []), (13, .iconst (1), 14, []), (14, .ireturn, 15, []), (15, .iconst (0), 16, []), (16, .ireturn, 17, [])]
def jx_b119 : List (Nat × Instr × Nat × List Nat) := [(0, .aload_n 1, 1, []), (1, .iconst (0), 2, []), (2, .aload_n 0, 3, []), (3, .invokevirtual 40, 6, []), (6, .i2l, 7, []), (7, .lastore, 8, []), (8, .goto (6), 11, [14]), (11, .astore_n 2, 12, []), (12, .iconst (1), 13, []), (13, .ireturn, 14, []), (14, .iconst (0), 15, []), (15, .ireturn, 16, [])]
def jx_b120 : List (Nat × Instr × Nat × List Nat) := [(0, .aload_n 2, 1, []), (1, .iconst (0), 2, []), (2, .aload_n 0, 3, []), (3, .iload_n 1, 4, []), (4, .invokevirtual 43, 7, []), (7, .i2l, 8, []), (8, .lastore, 9, []), (9, .goto (6), 12, [15]), (12, .astore_n 3, 13, []), (13, .iconst (1), 14, []), (14, .ireturn, 15, []), (15, .iconst (0), 16, []), (16, .ireturn, 17, [])]
def jx_b121 : List (Nat × Instr × Nat × List Nat) := [(20, .iconst (0), 21, []), (21, .istore 4, 23, []), (23, .iload 4, 25, []), (25, .aload_n 0, 26, []), (26, .arraylength, 27, []), (27, .bipush (7), 29, []), (29, .isub, 30, []), (30, .if_icmp .gt (724), 33, [754]), (33, .aload_n 0, 34, []), (34, .iload 4, 36, []), (36, .iaload, 37, []), (37, .bipush (15), 39, []), (39, .iand, 40, []), (40, .tableswitch (708) (0) (11) #[(64), (120), (133), (177), (264), (398), (458), (526), (582), (595), (639), (695)], 104, [748, 104, 160, 173, 217, 304, 438, 498, 566, 622, 635, 679, 735]), (104, .aload_n 1, 105, []), (105, .aload_n 0, 106, []), (106, .iload 4, 108, []), (108, .iconst (1), 109, []), (109, .iadd, 110, []), (110, .iaload, 111, []), (111, .aload_n 3, 112, []), (112, .invokestatic 52, 115, []), (115, .istore 5, 117, []), (117, .aload_n 2, 118, []), (118, .aload_n 0, 119, []), (119, .iload 4, 121, []), (121, .iconst (1), 122, []), (122, .iadd, 123, []), (123, .iaload, 124, []), (124, .invokevirtual 57, 127, []), (127, .istore 6, 129, []), (129, .aload_n 2, 130, []), (130, .invokevirtual 58, 133, []), (133, .iload 5, 135, []), (135, .if_icmp .eq (5), 138, [140]), (138, .iconst (0), 139, []), (139, .ireturn, 140, []), (140, .iload 5, 142, []), (142, .ifCond .ne (15), 145, [157]), (145, .aload_n 3, 146, []), (146, .iconst (0), 147, []), (147, .laload, 148, []), (148, .iload 6, 150, []), (150, .i2l, 151, []), (151, .lcmp, 152, []), (152, .ifCond .eq (5), 155, [157]), (155, .iconst (0), 156, []), (156, .ireturn, 157, []), (157, .goto (591), 160, [748]), (160, .aload_n 1, 161, []), (161, .invokevirtual 61, 164, []), (164, .aload_n 2, 165, []), (165, .invokevirtual 64, 168, []), (168, .if_icmp .eq (580), 171, [748]), (171, .iconst (0), 172, []), (172, .ireturn, 173, []), (173, .aload_n 1, 174, []), (174, .aload_n 3, 175, []), (175, .invokestatic 65, 178, []), (178, .istore 5, 180, []), (180, .aload_n 2, 181, []), (181, .invokevirtual 68, 184, []), (184, .istore 6, 186, []), (186, .aload_n 2, 187, []), (187, .invokevirtual 58, 190, []), (190, .iload 5, 192, []), (192, .if_icmp .eq (5), 195, [197]), (195, .iconst (0), 196, []), (196, .ireturn, 197, []), (197, .iload 5, 199, []), (199, .ifCond .ne (15), 202, [214]), (202, .aload_n 3, 203, []), (203, .iconst (0), 204, []), (204, .laload, 205, []), (205, .iload 6, 207, []), (207, .i2l, 208, []), (208, .lcmp, 209, []), (209, .ifCond .eq (5), 212, [214]), (212, .iconst (0), 213, []), (213, .ireturn, 214, []), (214, .goto (534), 217, [748]), (217, .aload_n 1, 218, []), (218, .aload_n 0, 219, []), (219, .iload 4, 221, []), (221, .iconst (1), 222, []), (222, .iadd, 223, []), (223, .iaload, 224, []), (224, .aload_n 0, 225, []), (225, .iload 4, 227, []), (227, .iconst (2), 228, []), (228, .iadd, 229, []), (229, .iaload, 230, []), (230, .aload_n 0, 231, []), (231, .iload 4, 233, []), (233, .iconst (3), 234, []), (234, .iadd, 235, []), (235, .iaload, 236, []), (236, .aload_n 3, 237, []), (237, .invokestatic 69, 240, []), (240, .istore 5, 242, []), (242, .aload_n 2, 243, []), (243, .aload_n 0, 244, []), (244, .iload 4, 246, []), (246, .iconst (1), 247, []), (247, .iadd, 248, []), (248, .iaload, 249, []), (249, .aload_n 0, 250, []), (250, .iload 4, 252, []), (252, .iconst (2), 253, []), (253, .iadd, 254, []), (254, .iaload, 255, []), (255, .aload_n 0, 256, []), (256, .iload 4, 258, []), (258, .iconst (3), 259, []), (259, .iadd, 260, []), (260, .iaload, 261, []), (261, .invokevirtual 72, 264, []), (264, .istore 6, 266, []), (266, .aload_n 2, 267, []), (267, .invokevirtual 58, 270, []), (270, .iload 5, 272, []), (272, .if_icmp .eq (5), 275, [277]), (275, .iconst (0), 276, []), (276, .ireturn, 277, []), (277, .iload 5, 279, []), (279, .ifCond .ne (22), 282, [301]), (282, .aload_n 3, 283, []), (283, .iconst (0), 284, []), (284, .laload, 285, []), (285, .iload 6, 287, []), (287, .ifCond .eq (7), 290, [294]), (290, .lconst 1, 291, []), (291, .goto (4), 294, [295]), (294, .lconst 0, 295, []), (295, .lcmp, 296, []), (296, .ifCond .eq (5), 299, [301]), (299, .iconst (0), 300, []), (300, .ireturn, 301, []), (301, .goto (447), 304, [748]), (304, .aload_n 1, 305, []), (305, .aload_n 0, 306, []), (306, .iload 4, 308, []), (308, .iconst (1), 309, []), (309, .iadd, 310, []), (310, .iaload, 311, []), (311, .aload_n 0, 312, []), (312, .iload 4, 314, []), (314, .iconst (2), 315, []), (315, .iadd, 316, []), (316, .iaload, 317, []), (317, .aload_n 0, 318, []), (318, .iload 4, 320, []), (320, .iconst (3), 321, []), (321, .iadd, 322, []), (322, .iaload, 323, []), (323, .aload_n 0, 324, []), (324, .iload 4, 326, []), (326, .iconst (4), 327, []), (327, .iadd, 328, []), (328, .iaload, 329, []), (329, .aload_n 0, 330, []), (330, .iload 4, 332, []), (332, .iconst (5), 333, []), (333, .iadd, 334, []), (334, .iaload, 335, []), (335, .aload_n 0, 336, []), (336, .iload 4, 338, []), (338, .bipush (6), 340, []), (340, .iadd, 341, []), (341, .iaload, 342, []), (342, .ifCond .eq (7), 345, [349]), (345, .iconst (1), 346, []), (346, .goto (4), 349, [350]), (349, .iconst (0), 350, []), (350, .aload_n 3, 351, []), (351, .invokestatic 73, 354, []), (354, .istore 5, 356, []), (356, .aload_n 2, 357, []), (357, .aload_n 0, 358, []), (358, .iload 4, 360, []), (360, .iconst (1), 361, []), (361, .iadd, 362, []), (362, .iaload, 363, []), (363, .aload_n 0, 364, []), (364, .iload 4, 366, []), (366, .iconst (2), 367, []), (367, .iadd, 368, []), (368, .iaload, 369, []), (369, .aload_n 0, 370, []), (370, .iload 4, 372, []), (372, .iconst (3), 373, []), (373, .iadd, 374, []), (374, .iaload, 375, []), (375, .aload_n 0, 376, []), (376, .iload 4, 378, []), (378, .iconst (4), 379, []), (379, .iadd, 380, []), (380, .iaload, 381, []), (381, .aload_n 0, 382, []), (382, .iload 4, 384, []), (384, .iconst (5), 385, []), (385, .iadd, 386, []), (386, .iaload, 387, []), (387, .aload_n 0, 388, []), (388, .iload 4, 390, []), (390, .bipush (6), 392, []), (392, .iadd, 393, []), (393, .iaload, 394, []), (394, .ifCond .eq (7), 397, [401]), (397, .iconst (1), 398, []), (398, .goto (4), 401, [402]), (401, .iconst (0), 402, []), (402, .invokevirtual 76, 405, []), (405, .istore 6, 407, []), (407, .aload_n 2, 408, []), (408, .invokevirtual 58, 411, []), (411, .iload 5, 413, []), (413, .if_icmp .eq (5), 416, [418]), (416, .iconst (0), 417, []), (417, .ireturn, 418, []), (418, .iload 5, 420, []), (420, .ifCond .ne (15), 423, [435]), (423, .aload_n 3, 424, []), (424, .iconst (0), 425, []), (425, .laload, 426, []), (426, .iload 6, 428, []), (428, .i2l, 429, []), (429, .lcmp, 430, []), (430, .ifCond .eq (5), 433, [435]), (433, .iconst (0), 434, []), (434, .ireturn, 435, []), (435, .goto (313), 438, [748]), (438, .aload_n 1, 439, []), (439, .aload_n 0, 440, []), (440, .iload 4, 442, []), (442, .iconst (1), 443, []), (443, .iadd, 444, []), (444, .iaload, 445, []), (445, .aload_n 0, 446, []), (446, .iload 4, 448, []), (448, .iconst (2), 449, []), (449, .iadd, 450, []), (450, .iaload, 451, []), (451, .aload_n 0, 452, []), (452, .iload 4, 454, []), (454, .iconst (3), 455, []), (455, .iadd, 456, []), (456, .iaload, 457, []), (457, .invokestatic 77, 460, []), (460, .istore 5, 462, []), (462, .aload_n 2, 463, []), (463, .aload_n 0, 464, []), (464, .iload 4, 466, []), (466, .iconst (1), 467, []), (467, .iadd, 468, []), (468, .iaload, 469, []), (469, .aload_n 0, 470, []), (470, .iload 4, 472, []), (472, .iconst (2), 473, []), (473, .iadd, 474, []), (474, .iaload, 475, []), (475, .aload_n 0, 476, []), (476, .iload 4, 478, []), (478, .iconst (3), 479, []), (479, .iadd, 480, []), (480, .iaload, 481, []), (481, .invokevirtual 80, 484, []), (484, .aload_n 2, 485, []), (485, .invokevirtual 58, 488, []), (488, .iload 5, 490, []), (490, .if_icmp .eq (5), 493, [495]), (493, .iconst (0), 494, []), (494, .ireturn, 495, []), (495, .goto (253), 498, [748]), (498, .aload_n 1, 499, []), (499, .aload_n 0, 500, []), (500, .iload 4, 502, []), (502, .iconst (1), 503, []), (503, .iadd, 504, []), (504, .iaload, 505, []), (505, .aload_n 0, 506, []), (506, .iload 4, 508, []), (508, .iconst (2), 509, []), (509, .iadd, 510, []), (510, .iaload, 511, []), (511, .aload_n 3, 512, []), (512, .invokestatic 81, 515, []), (515, .istore 5, 517, []), (517, .aload_n 2, 518, []), (518, .aload_n 0, 519, []), (519, .iload 4, 521, []), (521, .iconst (1), 522, []), (522, .iadd, 523, []), (523, .iaload, 524, []), (524, .aload_n 0, 525, []), (525, .iload 4, 527, []), (527, .iconst (2), 528, []), (528, .iadd, 529, []), (529, .iaload, 530, []), (530, .invokevirtual 84, 533, []), (533, .istore 6, 535, []), (535, .aload_n 2, 536, []), (536, .invokevirtual 58, 539, []), (539, .iload 5, 541, []), (541, .if_icmp .eq (5), 544, [546]), (544, .iconst (0), 545, []), (545, .ireturn, 546, []), (546, .iload 5, 548, []), (548, .ifCond .ne (15), 551, [563]), (551, .aload_n 3, 552, []), (552, .iconst (0), 553, []), (553, .laload, 554, []), (554, .iload 6, 556, []), (556, .i2l, 557, []), (557, .lcmp, 558, []), (558, .ifCond .eq (5), 561, [563]), (561, .iconst (0), 562, []), (562, .ireturn, 563, []), (563, .goto (185), 566, [748]), (566, .aload_n 1, 567, []), (567, .aload_n 0, 568, []), (568, .iload 4, 570, []), (570, .iconst (1), 571, []), (571, .iadd, 572, []), (572, .iaload, 573, []), (573, .aload_n 3, 574, []), (574, .invokestatic 85, 577, []), (577, .istore 5, 579, []), (579, .aload_n 2, 580, []), (580, .aload_n 0, 581, []), (581, .iload 4, 583, []), (583, .iconst (1), 584, []), (584, .iadd, 585, []), (585, .iaload, 586, []), (586, .invokevirtual 87, 589, []), (589, .istore 6, 591, []), (591, .aload_n 2, 592, []), (592, .invokevirtual 58, 595, []), (595, .iload 5, 597, []), (597, .if_icmp .eq (5), 600, [602]), (600, .iconst (0), 601, []), (601, .ireturn, 602, []), (602, .iload 5, 604, []), (604, .ifCond .ne (15), 607, [619]), (607, .aload_n 3, 608, []), (608, .iconst (0), 609, []), (609, .laload, 610, []), (610, .iload 6, 612, []), (612, .i2l, 613, []), (613, .lcmp, 614, []), (614, .ifCond .eq (5), 617, [619]), (617, .iconst (0), 618, []), (618, .ireturn, 619, []), (619, .goto (129), 622, [748]), (622, .aload_n 1, 623, []), (623, .invokevirtual 88, 626, []), (626, .aload_n 2, 627, []), (627, .invokevirtual 91, 630, []), (630, .if_icmp .eq (118), 633, [748]), (633, .iconst (0), 634, []), (634, .ireturn, 635, []), (635, .aload_n 1, 636, []), (636, .aload_n 3, 637, []), (637, .invokestatic 92, 640, []), (640, .istore 5, 642, []), (642, .aload_n 2, 643, []), (643, .invokevirtual 94, 646, []), (646, .istore 6, 648, []), (648, .aload_n 2, 649, []), (649, .invokevirtual 58, 652, []), (652, .iload 5, 654, []), (654, .if_icmp .eq (5), 657, [659]), (657, .iconst (0), 658, []), (658, .ireturn, 659, []), (659, .iload 5, 661, []), (661, .ifCond .ne (15), 664, [676]), (664, .aload_n 3, 665, []), (665, .iconst (0), 666, []), (666, .laload, 667, []), (667, .iload 6, 669, []), (669, .i2l, 670, []), (670, .lcmp, 671, []), (671, .ifCond .eq (5), 674, [676]), (674, .iconst (0), 675, []), (675, .ireturn, 676, []), (676, .goto (72), 679, [748]), (679, .aload_n 1, 680, []), (680, .aload_n 0, 681, []), (681, .iload 4, 683, []), (683, .iconst (1), 684, []), (684, .iadd, 685, []), (685, .iaload, 686, []), (686, .aload_n 3, 687, []), (687, .invokestatic 95, 690, []), (690, .istore 5, 692, []), (692, .aload_n 2, 693, []), (693, .aload_n 0, 694, []), (694, .iload 4, 696, []), (696, .iconst (1), 697, []), (697, .iadd, 698, []), (698, .iaload, 699, []), (699, .invokevirtual 97, 702, []), (702, .istore 6, 704, []), (704, .aload_n 2, 705, []), (705, .invokevirtual 58, 708, []), (708, .iload 5, 710, []), (710, .if_icmp .eq (5), 713, [715]), (713, .iconst (0), 714, []), (714, .ireturn, 715, []), (715, .iload 5, 717, []), (717, .ifCond .ne (15), 720, [732]), (720, .aload_n 3, 721, []), (721, .iconst (0), 722, []), (722, .laload, 723, []), (723, .iload 6, 725, []), (725, .i2l, 726, []), (726, .lcmp, 727, []), (727, .ifCond .eq (5), 730, [732]), (730, .iconst (0), 731, []), (731, .ireturn, 732, []), (732, .goto (16), 735, [748]), (735, .aload_n 1, 736, []), (736, .invokevirtual 98, 739, []), (739, .aload_n 2, 740, []), (740, .invokevirtual 101, 743, []), (743, .if_icmp .eq (5), 746, [748]), (746, .iconst (0), 747, []), (747, .ireturn, 748, []), (748, .iinc 4 (7), 751, []), (751, .goto (-728), 754, [23]), (754, .iconst (1), 755, []), (755, .ireturn, 756, [])]
def jx_tbs : List (List (Nat × Instr × Nat × List Nat)) := [jx_b0, jx_b1, jx_b2, jx_b3, jx_b4, jx_b5, jx_b6, jx_b7, jx_b8, jx_b9, jx_b10, jx_b11, jx_b12, jx_b13, jx_b14, jx_b15, jx_b16, jx_b17, jx_b18, jx_b19, jx_b20, jx_b21, jx_b22, jx_b23, jx_b24, jx_b25, jx_b26, jx_b27, jx_b28, jx_b29, jx_b30, jx_b31, jx_b32, jx_b33, jx_b34, jx_b35, jx_b36, jx_b37, jx_b38, jx_b39, jx_b40, jx_b41, jx_b42, jx_b43, jx_b44, jx_b45, jx_b46, jx_b47, jx_b48, jx_b49, jx_b50, jx_b51, jx_b52, jx_b53, jx_b54, jx_b55, jx_b56, jx_b57, jx_b58, jx_b59, jx_b60, jx_b61, jx_b62, jx_b63, jx_b64, jx_b65, jx_b66, jx_b67, jx_b68, jx_b69, jx_b70, jx_b71, jx_b72, jx_b73, jx_b74, jx_b75, jx_b76, jx_b77, jx_b78, jx_b79, jx_b80, jx_b81, jx_b82, jx_b83, jx_b84, jx_b85, jx_b86, jx_b87, jx_b88, jx_b89, jx_b90, jx_b91, jx_b92, jx_b93, jx_b94, jx_b95, jx_b96, jx_b97, jx_b98, jx_b99, jx_b100, jx_b101, jx_b102, jx_b103, jx_b104, jx_b105, jx_b106, jx_b107, jx_b108, jx_b109, jx_b110, jx_b111, jx_b112, jx_b113, jx_b114, jx_b115, jx_b116, jx_b117, jx_b118, jx_b119, jx_b120, jx_b121]
def jx_tb (κ : Nat) : List (Nat × Instr × Nat × List Nat) := jx_tbs.getD κ []
def jx_fdl : List (Nat × Nat × Nat × Nat) := [(0, 9, 0, 0), (0, 13, 0, 1), (0, 19, 0, 2), (0, 23, 0, 3), (0, 26, 0, 4), (0, 32, 0, 5), (0, 39, 0, 6), (0, 46, 0, 7), (0, 53, 0, 8), (1, 9, 1, 0), (2, 9, 2, 0), (2, 15, 2, 1), (3, 9, 3, 0), (4, 9, 4, 0), (4, 15, 4, 1), (4, 21, 4, 2), (5, 11, 5, 0), (5, 16, 5, 1), (5, 20, 5, 2), (5, 24, 5, 3), (5, 27, 5, 4), (5, 30, 5, 5), (5, 34, 5, 6), (5, 40, 5, 7), (6, 7, 6, 2), (6, 13, 6, 4), (6, 17, 6, 5), (6, 20, 6, 6), (6, 23, 6, 7), (6, 26, 6, 8), (6, 29, 6, 9), (6, 32, 6, 10), (6, 35, 6, 11), (6, 38, 6, 15), (6, 41, 6, 16), (6, 44, 6, 18), (6, 51, 6, 0), (6, 55, 6, 1), (6, 79, 6, 3), (6, 111, 6, 12), (6, 114, 6, 13), (6, 117, 6, 14), (6, 136, 6, 17)]
def jx_sdl : List (Nat × Nat × Nat) := [(2, 34, 42), (7, 7, 40), (7, 13, 41)]
def jx_mdl : List (Nat × Nat × Nat) := [(0, 72, 92), (0, 76, 101), (0, 80, 46), (0, 86, 7), (0, 98, 51), (0, 102, 6), (0, 105, 1), (0, 113, 109), (0, 117, 88), (0, 121, 18), (0, 127, 14), (0, 131, 22), (0, 134, 21), (0, 140, 104), (0, 143, 25), (0, 151, 24), (0, 154, 20), (0, 157, 0), (0, 160, 13), (0, 163, 85), (0, 167, 11), (0, 170, 9), (0, 173, 93), (0, 176, 57), (0, 180, 53), (0, 183, 96), (1, 15, 7), (1, 19, 6), (1, 23, 79), (1, 26, 4), (1, 30, 5), (1, 33, 51), (1, 37, 50), (1, 41, 81), (1, 45, 8), (2, 24, 80), (2, 30, 82), (2, 37, 43), (2, 42, 54), (2, 45, 10), (2, 49, 83), (2, 52, 84), (2, 55, 42), (2, 59, 52), (2, 63, 56), (2, 66, 75), (2, 70, 44), (3, 15, 12), (3, 19, 59), (3, 22, 42), (3, 27, 44), (3, 31, 75), (3, 35, 43), (4, 25, 103), (4, 29, 94), (4, 35, 15), (4, 38, 102), (4, 42, 60), (4, 46, 97), (4, 50, 95), (4, 54, 55), (4, 58, 17), (4, 61, 18), (4, 64, 16), (5, 44, 17), (5, 49, 16), (5, 51, 18), (5, 54, 62), (5, 58, 23), (5, 62, 61), (5, 66, 98), (5, 70, 63), (5, 73, 19), (5, 76, 13), (5, 79, 87), (5, 83, 58), (5, 86, 86), (5, 89, 11), (6, 47, 35), (6, 58, 38), (6, 61, 33), (6, 65, 72), (6, 69, 28), (6, 73, 89), (6, 76, 65), (6, 82, 100), (6, 86, 32), (6, 90, 74), (6, 93, 90), (6, 97, 73), (6, 100, 67), (6, 104, 26), (6, 107, 99), (6, 120, 40), (6, 123, 69), (6, 126, 106), (6, 129, 29), (6, 132, 37), (6, 139, 71), (6, 142, 70), (7, 16, 43), (7, 20, 44), (8, 57, 30), (8, 58, 39), (8, 61, 3), (8, 64, 41), (8, 68, 105), (8, 72, 66), (8, 76, 64), (8, 80, 68), (8, 84, 110), (8, 87, 27), (8, 88, 47), (8, 91, 31), (8, 94, 91), (8, 97, 34), (8, 98, 49), (8, 101, 36)]
def jx_spl : List (Nat × Nat × Nat) := [(0, 92, 0), (2, 18, 1)]
def jx_exl : List (Nat × Nat × Nat) := [(0, 58, 0), (0, 65, 1), (0, 146, 2)]
end
section
/-! Facts of the tables of part 02, each decided by a check over the tables. -/
def jx_len (i : Instr) : Nat := match i with
  | .iconst _ | .iload_n _ | .aload_n _ | .istore_n _ | .astore_n _ | .iadd | .isub | .imul | .iand | .ior | .ixor | .ishl | .ishr | .idiv | .irem | .dup | .pop | .dup2 | .dup_x1 | .dup_x2 | .i2l | .lconst _ | .lcmp | .laload | .lastore | .iaload | .baload | .iastore | .bastore | .aaload | .ireturn | .return_ => 1
  | .bipush _ | .iload _ | .aload _ | .istore _ | .astore _ => 2
  | .sipush _ | .iinc _ _ | .goto _ | .ifCond _ _ | .if_icmp _ _ | .getfield _ | .putfield _ | .getstatic _ | .new _ | .invokevirtual _ | .invokestatic _ => 3
  | _ => 0
def jx_off (i : Instr) : Option Int := match i with
  | .goto o => some o
  | .ifCond _ o => some o
  | .if_icmp _ o => some o
  | _ => none
def jx_chk (cc : ByteArray) (e : Nat × Instr × Nat × List Nat) : Bool := match e with
  | (pc, i, nx, tg) => decide (decode cc pc = .ok (i, nx - pc)) && decide (pc < nx) && (decide (jx_len i = 0) || decide (nx = pc + jx_len i))
    && (match jx_off i with
      | some o => decide (tg.length = 1) && decide ((pc : Int) + o = ((tg.getD 0 0 : Nat) : Int))
      | none => true)
    && (match i with
      | .tableswitch d0 lo hi offs => decide (0 ≤ lo) && decide (lo < 1000) && decide (tg.length < 1000) && decide (hi = lo + (tg.length : Int) - 2) && decide ((pc : Int) + d0 = ((tg.getD 0 0 : Nat) : Int)) && (List.range (tg.length - 1)).all (fun j => match offs[j]? with
        | some o => decide ((pc : Int) + o = ((tg.getD (j + 1) 0 : Nat) : Int))
        | none => false)
      | _ => true)
theorem jx_k0 : (jx_tb 0).all (jx_chk (jx_cd 0)) = true := by decide +kernel
theorem jx_k1 : (jx_tb 1).all (jx_chk (jx_cd 1)) = true := by decide +kernel
theorem jx_k2 : (jx_tb 2).all (jx_chk (jx_cd 2)) = true := by decide +kernel
theorem jx_k3 : (jx_tb 3).all (jx_chk (jx_cd 3)) = true := by decide +kernel
theorem jx_k4 : (jx_tb 4).all (jx_chk (jx_cd 4)) = true := by decide +kernel
theorem jx_k5 : (jx_tb 5).all (jx_chk (jx_cd 5)) = true := by decide +kernel
theorem jx_k6 : (jx_tb 6).all (jx_chk (jx_cd 6)) = true := by decide +kernel
theorem jx_k7 : (jx_tb 7).all (jx_chk (jx_cd 7)) = true := by decide +kernel
theorem jx_k8 : (jx_tb 8).all (jx_chk (jx_cd 8)) = true := by decide +kernel
theorem jx_k9 : (jx_tb 9).all (jx_chk (jx_cd 9)) = true := by decide +kernel
theorem jx_k10 : (jx_tb 10).all (jx_chk (jx_cd 10)) = true := by decide +kernel
theorem jx_k11 : (jx_tb 11).all (jx_chk (jx_cd 11)) = true := by decide +kernel
theorem jx_k12 : (jx_tb 12).all (jx_chk (jx_cd 12)) = true := by decide +kernel
theorem jx_k13 : (jx_tb 13).all (jx_chk (jx_cd 13)) = true := by decide +kernel
theorem jx_k14 : (jx_tb 14).all (jx_chk (jx_cd 14)) = true := by decide +kernel
theorem jx_k15 : (jx_tb 15).all (jx_chk (jx_cd 15)) = true := by decide +kernel
theorem jx_k16 : (jx_tb 16).all (jx_chk (jx_cd 16)) = true := by decide +kernel
theorem jx_k17 : (jx_tb 17).all (jx_chk (jx_cd 17)) = true := by decide +kernel
theorem jx_k18 : (jx_tb 18).all (jx_chk (jx_cd 18)) = true := by decide +kernel
theorem jx_k19 : (jx_tb 19).all (jx_chk (jx_cd 19)) = true := by decide +kernel
theorem jx_k20 : (jx_tb 20).all (jx_chk (jx_cd 20)) = true := by decide +kernel
theorem jx_k21 : (jx_tb 21).all (jx_chk (jx_cd 21)) = true := by decide +kernel
theorem jx_k22 : (jx_tb 22).all (jx_chk (jx_cd 22)) = true := by decide +kernel
theorem jx_k23 : (jx_tb 23).all (jx_chk (jx_cd 23)) = true := by decide +kernel
theorem jx_k24 : (jx_tb 24).all (jx_chk (jx_cd 24)) = true := by decide +kernel
theorem jx_k25 : (jx_tb 25).all (jx_chk (jx_cd 25)) = true := by decide +kernel
theorem jx_k26 : (jx_tb 26).all (jx_chk (jx_cd 26)) = true := by decide +kernel
theorem jx_k27 : (jx_tb 27).all (jx_chk (jx_cd 27)) = true := by decide +kernel
theorem jx_k28 : (jx_tb 28).all (jx_chk (jx_cd 28)) = true := by decide +kernel
theorem jx_k29 : (jx_tb 29).all (jx_chk (jx_cd 29)) = true := by decide +kernel
theorem jx_k30 : (jx_tb 30).all (jx_chk (jx_cd 30)) = true := by decide +kernel
theorem jx_k31 : (jx_tb 31).all (jx_chk (jx_cd 31)) = true := by decide +kernel
theorem jx_k32 : (jx_tb 32).all (jx_chk (jx_cd 32)) = true := by decide +kernel
theorem jx_k33 : (jx_tb 33).all (jx_chk (jx_cd 33)) = true := by decide +kernel
theorem jx_k34 : (jx_tb 34).all (jx_chk (jx_cd 34)) = true := by decide +kernel
theorem jx_k35 : (jx_tb 35).all (jx_chk (jx_cd 35)) = true := by decide +kernel
theorem jx_k36 : (jx_tb 36).all (jx_chk (jx_cd 36)) = true := by decide +kernel
theorem jx_k37 : (jx_tb 37).all (jx_chk (jx_cd 37)) = true := by decide +kernel
theorem jx_k38 : (jx_tb 38).all (jx_chk (jx_cd 38)) = true := by decide +kernel
theorem jx_k39 : (jx_tb 39).all (jx_chk (jx_cd 39)) = true := by decide +kernel
theorem jx_k40 : (jx_tb 40).all (jx_chk (jx_cd 40)) = true := by decide +kernel
theorem jx_k41 : (jx_tb 41).all (jx_chk (jx_cd 41)) = true := by decide +kernel
theorem jx_k42 : (jx_tb 42).all (jx_chk (jx_cd 42)) = true := by decide +kernel
theorem jx_k43 : (jx_tb 43).all (jx_chk (jx_cd 43)) = true := by decide +kernel
theorem jx_k44 : (jx_tb 44).all (jx_chk (jx_cd 44)) = true := by decide +kernel
theorem jx_k45 : (jx_tb 45).all (jx_chk (jx_cd 45)) = true := by decide +kernel
theorem jx_k46 : (jx_tb 46).all (jx_chk (jx_cd 46)) = true := by decide +kernel
theorem jx_k47 : (jx_tb 47).all (jx_chk (jx_cd 47)) = true := by decide +kernel
theorem jx_k48 : (jx_tb 48).all (jx_chk (jx_cd 48)) = true := by decide +kernel
theorem jx_k49 : (jx_tb 49).all (jx_chk (jx_cd 49)) = true := by decide +kernel
theorem jx_k50 : (jx_tb 50).all (jx_chk (jx_cd 50)) = true := by decide +kernel
theorem jx_k51 : (jx_tb 51).all (jx_chk (jx_cd 51)) = true := by decide +kernel
theorem jx_k52 : (jx_tb 52).all (jx_chk (jx_cd 52)) = true := by decide +kernel
theorem jx_k53 : (jx_tb 53).all (jx_chk (jx_cd 53)) = true := by decide +kernel
theorem jx_k54 : (jx_tb 54).all (jx_chk (jx_cd 54)) = true := by decide +kernel
theorem jx_k55 : (jx_tb 55).all (jx_chk (jx_cd 55)) = true := by decide +kernel
theorem jx_k56 : (jx_tb 56).all (jx_chk (jx_cd 56)) = true := by decide +kernel
theorem jx_k57 : (jx_tb 57).all (jx_chk (jx_cd 57)) = true := by decide +kernel
theorem jx_k58 : (jx_tb 58).all (jx_chk (jx_cd 58)) = true := by decide +kernel
theorem jx_k59 : (jx_tb 59).all (jx_chk (jx_cd 59)) = true := by decide +kernel
theorem jx_k60 : (jx_tb 60).all (jx_chk (jx_cd 60)) = true := by decide +kernel
theorem jx_k61 : (jx_tb 61).all (jx_chk (jx_cd 61)) = true := by decide +kernel
theorem jx_k62 : (jx_tb 62).all (jx_chk (jx_cd 62)) = true := by decide +kernel
theorem jx_k63 : (jx_tb 63).all (jx_chk (jx_cd 63)) = true := by decide +kernel
theorem jx_k64 : (jx_tb 64).all (jx_chk (jx_cd 64)) = true := by decide +kernel
theorem jx_k65 : (jx_tb 65).all (jx_chk (jx_cd 65)) = true := by decide +kernel
theorem jx_k66 : (jx_tb 66).all (jx_chk (jx_cd 66)) = true := by decide +kernel
theorem jx_k67 : (jx_tb 67).all (jx_chk (jx_cd 67)) = true := by decide +kernel
theorem jx_k68 : (jx_tb 68).all (jx_chk (jx_cd 68)) = true := by decide +kernel
theorem jx_k69 : (jx_tb 69).all (jx_chk (jx_cd 69)) = true := by decide +kernel
theorem jx_k70 : (jx_tb 70).all (jx_chk (jx_cd 70)) = true := by decide +kernel
theorem jx_k71 : (jx_tb 71).all (jx_chk (jx_cd 71)) = true := by decide +kernel
theorem jx_k72 : (jx_tb 72).all (jx_chk (jx_cd 72)) = true := by decide +kernel
theorem jx_k73 : (jx_tb 73).all (jx_chk (jx_cd 73)) = true := by decide +kernel
theorem jx_k74 : (jx_tb 74).all (jx_chk (jx_cd 74)) = true := by decide +kernel
theorem jx_k75 : (jx_tb 75).all (jx_chk (jx_cd 75)) = true := by decide +kernel
theorem jx_k76 : (jx_tb 76).all (jx_chk (jx_cd 76)) = true := by decide +kernel
theorem jx_k77 : (jx_tb 77).all (jx_chk (jx_cd 77)) = true := by decide +kernel
theorem jx_k78 : (jx_tb 78).all (jx_chk (jx_cd 78)) = true := by decide +kernel
theorem jx_k79 : (jx_tb 79).all (jx_chk (jx_cd 79)) = true := by decide +kernel
theorem jx_k80 : (jx_tb 80).all (jx_chk (jx_cd 80)) = true := by decide +kernel
theorem jx_k81 : (jx_tb 81).all (jx_chk (jx_cd 81)) = true := by decide +kernel
theorem jx_k82 : (jx_tb 82).all (jx_chk (jx_cd 82)) = true := by decide +kernel
theorem jx_k83 : (jx_tb 83).all (jx_chk (jx_cd 83)) = true := by decide +kernel
theorem jx_k84 : (jx_tb 84).all (jx_chk (jx_cd 84)) = true := by decide +kernel
theorem jx_k85 : (jx_tb 85).all (jx_chk (jx_cd 85)) = true := by decide +kernel
theorem jx_k86 : (jx_tb 86).all (jx_chk (jx_cd 86)) = true := by decide +kernel
theorem jx_k87 : (jx_tb 87).all (jx_chk (jx_cd 87)) = true := by decide +kernel
theorem jx_k88 : (jx_tb 88).all (jx_chk (jx_cd 88)) = true := by decide +kernel
theorem jx_k89 : (jx_tb 89).all (jx_chk (jx_cd 89)) = true := by decide +kernel
theorem jx_k90 : (jx_tb 90).all (jx_chk (jx_cd 90)) = true := by decide +kernel
theorem jx_k91 : (jx_tb 91).all (jx_chk (jx_cd 91)) = true := by decide +kernel
theorem jx_k92 : (jx_tb 92).all (jx_chk (jx_cd 92)) = true := by decide +kernel
theorem jx_k93 : (jx_tb 93).all (jx_chk (jx_cd 93)) = true := by decide +kernel
theorem jx_k94 : (jx_tb 94).all (jx_chk (jx_cd 94)) = true := by decide +kernel
theorem jx_k95 : (jx_tb 95).all (jx_chk (jx_cd 95)) = true := by decide +kernel
theorem jx_k96 : (jx_tb 96).all (jx_chk (jx_cd 96)) = true := by decide +kernel
theorem jx_k97 : (jx_tb 97).all (jx_chk (jx_cd 97)) = true := by decide +kernel
theorem jx_k98 : (jx_tb 98).all (jx_chk (jx_cd 98)) = true := by decide +kernel
theorem jx_k99 : (jx_tb 99).all (jx_chk (jx_cd 99)) = true := by decide +kernel
theorem jx_k100 : (jx_tb 100).all (jx_chk (jx_cd 100)) = true := by decide +kernel
theorem jx_k101 : (jx_tb 101).all (jx_chk (jx_cd 101)) = true := by decide +kernel
theorem jx_k102 : (jx_tb 102).all (jx_chk (jx_cd 102)) = true := by decide +kernel
theorem jx_k103 : (jx_tb 103).all (jx_chk (jx_cd 103)) = true := by decide +kernel
theorem jx_k104 : (jx_tb 104).all (jx_chk (jx_cd 104)) = true := by decide +kernel
theorem jx_k105 : (jx_tb 105).all (jx_chk (jx_cd 105)) = true := by decide +kernel
theorem jx_k106 : (jx_tb 106).all (jx_chk (jx_cd 106)) = true := by decide +kernel
theorem jx_k107 : (jx_tb 107).all (jx_chk (jx_cd 107)) = true := by decide +kernel
theorem jx_k108 : (jx_tb 108).all (jx_chk (jx_cd 108)) = true := by decide +kernel
theorem jx_k109 : (jx_tb 109).all (jx_chk (jx_cd 109)) = true := by decide +kernel
theorem jx_k110 : (jx_tb 110).all (jx_chk (jx_cd 110)) = true := by decide +kernel
theorem jx_k111 : (jx_tb 111).all (jx_chk (jx_cd 111)) = true := by decide +kernel
theorem jx_k112 : (jx_tb 112).all (jx_chk (jx_cd 112)) = true := by decide +kernel
theorem jx_k113 : (jx_tb 113).all (jx_chk (jx_cd 113)) = true := by decide +kernel
theorem jx_k114 : (jx_tb 114).all (jx_chk (jx_cd 114)) = true := by decide +kernel
theorem jx_k115 : (jx_tb 115).all (jx_chk (jx_cd 115)) = true := by decide +kernel
theorem jx_k116 : (jx_tb 116).all (jx_chk (jx_cd 116)) = true := by decide +kernel
theorem jx_k117 : (jx_tb 117).all (jx_chk (jx_cd 117)) = true := by decide +kernel
theorem jx_k118 : (jx_tb 118).all (jx_chk (jx_cd 118)) = true := by decide +kernel
theorem jx_k119 : (jx_tb 119).all (jx_chk (jx_cd 119)) = true := by decide +kernel
theorem jx_k120 : (jx_tb 120).all (jx_chk (jx_cd 120)) = true := by decide +kernel
theorem jx_k121 : (jx_tb 121).all (jx_chk (jx_cd 121)) = true := by decide +kernel
theorem jx_tb_ok (κ : Nat) (h : κ < jx_nt) : (jx_tb κ).all (jx_chk (jx_cd κ)) = true := by
  match κ, h with
  | 0, _ => exact jx_k0
  | 1, _ => exact jx_k1
  | 2, _ => exact jx_k2
  | 3, _ => exact jx_k3
  | 4, _ => exact jx_k4
  | 5, _ => exact jx_k5
  | 6, _ => exact jx_k6
  | 7, _ => exact jx_k7
  | 8, _ => exact jx_k8
  | 9, _ => exact jx_k9
  | 10, _ => exact jx_k10
  | 11, _ => exact jx_k11
  | 12, _ => exact jx_k12
  | 13, _ => exact jx_k13
  | 14, _ => exact jx_k14
  | 15, _ => exact jx_k15
  | 16, _ => exact jx_k16
  | 17, _ => exact jx_k17
  | 18, _ => exact jx_k18
  | 19, _ => exact jx_k19
  | 20, _ => exact jx_k20
  | 21, _ => exact jx_k21
  | 22, _ => exact jx_k22
  | 23, _ => exact jx_k23
  | 24, _ => exact jx_k24
  | 25, _ => exact jx_k25
  | 26, _ => exact jx_k26
  | 27, _ => exact jx_k27
  | 28, _ => exact jx_k28
  | 29, _ => exact jx_k29
  | 30, _ => exact jx_k30
  | 31, _ => exact jx_k31
  | 32, _ => exact jx_k32
  | 33, _ => exact jx_k33
  | 34, _ => exact jx_k34
  | 35, _ => exact jx_k35
  | 36, _ => exact jx_k36
  | 37, _ => exact jx_k37
  | 38, _ => exact jx_k38
  | 39, _ => exact jx_k39
  | 40, _ => exact jx_k40
  | 41, _ => exact jx_k41
  | 42, _ => exact jx_k42
  | 43, _ => exact jx_k43
  | 44, _ => exact jx_k44
  | 45, _ => exact jx_k45
  | 46, _ => exact jx_k46
  | 47, _ => exact jx_k47
  | 48, _ => exact jx_k48
  | 49, _ => exact jx_k49
  | 50, _ => exact jx_k50
  | 51, _ => exact jx_k51
  | 52, _ => exact jx_k52
  | 53, _ => exact jx_k53
  | 54, _ => exact jx_k54
  | 55, _ => exact jx_k55
  | 56, _ => exact jx_k56
  | 57, _ => exact jx_k57
  | 58, _ => exact jx_k58
  | 59, _ => exact jx_k59
  | 60, _ => exact jx_k60
  | 61, _ => exact jx_k61
  | 62, _ => exact jx_k62
  | 63, _ => exact jx_k63
  | 64, _ => exact jx_k64
  | 65, _ => exact jx_k65
  | 66, _ => exact jx_k66
  | 67, _ => exact jx_k67
  | 68, _ => exact jx_k68
  | 69, _ => exact jx_k69
  | 70, _ => exact jx_k70
  | 71, _ => exact jx_k71
  | 72, _ => exact jx_k72
  | 73, _ => exact jx_k73
  | 74, _ => exact jx_k74
  | 75, _ => exact jx_k75
  | 76, _ => exact jx_k76
  | 77, _ => exact jx_k77
  | 78, _ => exact jx_k78
  | 79, _ => exact jx_k79
  | 80, _ => exact jx_k80
  | 81, _ => exact jx_k81
  | 82, _ => exact jx_k82
  | 83, _ => exact jx_k83
  | 84, _ => exact jx_k84
  | 85, _ => exact jx_k85
  | 86, _ => exact jx_k86
  | 87, _ => exact jx_k87
  | 88, _ => exact jx_k88
  | 89, _ => exact jx_k89
  | 90, _ => exact jx_k90
  | 91, _ => exact jx_k91
  | 92, _ => exact jx_k92
  | 93, _ => exact jx_k93
  | 94, _ => exact jx_k94
  | 95, _ => exact jx_k95
  | 96, _ => exact jx_k96
  | 97, _ => exact jx_k97
  | 98, _ => exact jx_k98
  | 99, _ => exact jx_k99
  | 100, _ => exact jx_k100
  | 101, _ => exact jx_k101
  | 102, _ => exact jx_k102
  | 103, _ => exact jx_k103
  | 104, _ => exact jx_k104
  | 105, _ => exact jx_k105
  | 106, _ => exact jx_k106
  | 107, _ => exact jx_k107
  | 108, _ => exact jx_k108
  | 109, _ => exact jx_k109
  | 110, _ => exact jx_k110
  | 111, _ => exact jx_k111
  | 112, _ => exact jx_k112
  | 113, _ => exact jx_k113
  | 114, _ => exact jx_k114
  | 115, _ => exact jx_k115
  | 116, _ => exact jx_k116
  | 117, _ => exact jx_k117
  | 118, _ => exact jx_k118
  | 119, _ => exact jx_k119
  | 120, _ => exact jx_k120
  | 121, _ => exact jx_k121
  | n + 122, h => exact absurd h (Nat.not_lt.mpr (Nat.le_add_left 122 n))
end
section
def jx_ent (κ pc : Nat) : Option (Instr × Nat × List Nat) := ((jx_tb κ).find? (fun e => Nat.beq e.1 pc)).map (fun e => e.2)
theorem jx_ent_in {κ pc nx : Nat} {i : Instr} {tg : List Nat} (h : jx_ent κ pc = some (i, nx, tg)) : (pc, i, nx, tg) ∈ jx_tb κ := by
  unfold jx_ent at h
  cases hf : (jx_tb κ).find? (fun e => Nat.beq e.1 pc) with
  | none => rw [hf] at h; cases h
  | some q =>
    rw [hf] at h
    have h1 := List.mem_of_find?_eq_some hf
    have h2 := List.find?_some hf
    obtain ⟨a, b⟩ := q
    cases h
    have h3 : a = pc := Nat.eq_of_beq_eq_true h2
    rw [h3] at h1
    exact h1
theorem jx_nnt {κ : Nat} (h : κ < jx_nn) : κ < jx_nt := Nat.lt_of_lt_of_le h (by decide)
theorem jx_ent_ok {κ pc nx : Nat} {i : Instr} {tg : List Nat} (hκ : κ < jx_nt) (h : jx_ent κ pc = some (i, nx, tg)) :
    (0 < jx_len i → decode (jx_cd κ) pc = .ok (i, jx_len i) ∧ nx = pc + jx_len i) ∧ (∀ o, jx_off i = some o → ∀ t, tg = [t] → (pc : Int) + o = (t : Int)) ∧
    (∀ d0 lo hi offs, i = .tableswitch d0 lo hi offs → ∀ d ts, tg = d :: ts → decode (jx_cd κ) pc = .ok (.tableswitch d0 lo hi offs, nx - pc) ∧ 0 ≤ lo ∧ hi = lo + (ts.length : Int) - 1 ∧ (pc : Int) + d0 = (d : Int) ∧ ∀ (j t : Nat), ts[j]? = some t → ∃ o, offs[j]? = some o ∧ (pc : Int) + o = (t : Int) ∧ lo.toNat + j < 2000) := by
  have hc := List.all_eq_true.mp (jx_tb_ok κ hκ) _ (jx_ent_in h)
  simp only [jx_chk, Bool.and_eq_true, Bool.or_eq_true, decide_eq_true_eq] at hc
  obtain ⟨⟨⟨⟨h1, h2⟩, h3⟩, h4⟩, h5⟩ := hc
  refine ⟨fun hl => ?_, fun o ho t ht => ?_, fun d0 lo hi offs hi0 d ts ht => ?_⟩
  · have h6 : nx = pc + jx_len i := by
      rcases h3 with h3 | h3
      · omega
      · exact h3
    refine ⟨?_, h6⟩
    rw [h1, h6, Nat.add_sub_cancel_left]
  · rw [ho] at h4
    subst ht
    simp only [Bool.and_eq_true, decide_eq_true_eq] at h4
    simpa using h4.2
  · subst hi0
    subst ht
    simp only [Bool.and_eq_true, decide_eq_true_eq] at h5
    obtain ⟨⟨⟨⟨⟨g1, g2⟩, g3⟩, g4⟩, g5⟩, g6⟩ := h5
    simp only [List.length_cons] at g3 g4 g6
    refine ⟨h1, g1, by omega, by simpa using g5, fun j t hj => ?_⟩
    have hjl := (List.getElem?_eq_some_iff.mp hj).1
    have g7 := List.all_eq_true.mp g6 j (List.mem_range.mpr (by omega))
    cases ho : offs[j]? with
    | none => rw [ho] at g7; cases g7
    | some o =>
      rw [ho] at g7
      simp only [decide_eq_true_eq] at g7
      refine ⟨o, rfl, ?_, by omega⟩
      rw [g7]
      simp [hj]
-- cells
def jx_cel (k : Nat) : Bool := (jx_fl k).isSome || (jx_ar k).isSome || (jx_ra k).isSome
def jx_c1 (k : Nat) : Bool := (match jx_fl k with
    | some q => (jx_tv k).isNone && (match jx_cl[q.1]? with
      | some (_, T, N) => decide (q.2.length = N) && (List.range N).all (fun j => match q.2[j]? with
        | some none => (T j).2.2.2 == false && decide (parseFieldDescriptor (T j).2.2.1 = some .int)
        | some (some (k', some c)) => decide (c < jx_ct k')
        | some (some (k', none)) => decide (jx_ct k ≤ jx_ct k')
        | none => false)
      | none => false)
    | none => true)
  && (match jx_ar k with
    | some q => (jx_tv k).isNone && (jx_fl k).isNone && decide (q.2 < 2 ^ 31)
    | none => true)
  && (match jx_ra k with
    | some (t, n, k') => (jx_tv k).isNone && (jx_fl k).isNone && (jx_ar k).isNone && decide (n < 2 ^ 31) && decide (n ≤ jx_ct k') && (match jx_tl[t]? with
      | some ty => ty.isReference
      | none => false)
    | none => true)
  && (match jx_tv k with
    | some q => decide (jx_ct k ≤ 1) && decide (q.2.2.length < 2 ^ 31)
    | none => !jx_cel k || (List.range (jx_ct k)).all (fun i => decide ((k, i) ∈ jx_ls)))
theorem jx_c1_ok : ∀ k, k < 60 → jx_c1 k = true := by decide +kernel
theorem jx_big {k : Nat} (h : ¬ k < 60) : jx_fl k = none ∧ jx_ar k = none ∧ jx_ra k = none ∧ jx_tv k = none ∧ jx_ct k = 0 := by
  have h1 : jx_fll.length ≤ k := Nat.le_trans (by decide) (Nat.not_lt.mp h)
  have h2 : jx_arl.length ≤ k := Nat.le_trans (by decide) (Nat.not_lt.mp h)
  have h3 : jx_ral.length ≤ k := Nat.le_trans (by decide) (Nat.not_lt.mp h)
  have h4 : jx_tvl.length ≤ k := Nat.le_trans (by decide) (Nat.not_lt.mp h)
  have h5 : jx_ctl.length ≤ k := Nat.le_trans (by decide) (Nat.not_lt.mp h)
  simp [jx_fl, jx_ar, jx_ra, jx_tv, jx_ct, List.getElem?_eq_none h1, List.getElem?_eq_none h2, List.getElem?_eq_none h3, List.getElem?_eq_none h4, List.getElem?_eq_none h5]
theorem jx_c1_all (k : Nat) : jx_c1 k = true := by
  by_cases h : k < 60
  · exact jx_c1_ok k h
  · obtain ⟨h1, h2, h3, h4, h5⟩ := jx_big h
    simp [jx_c1, jx_cel, h1, h2, h3, h4, h5]
theorem jx_tv_fl {k : Nat} {q : Nat × List (Option (Nat × Option Nat))} (h : jx_fl k = some q) : jx_tv k = none := by
  have h1 := jx_c1_all k
  simp only [jx_c1, h, Bool.and_eq_true, Option.isNone_iff_eq_none] at h1
  exact h1.1.1.1.1
theorem jx_tv_ar {k : Nat} {q : Nat × Nat} (h : jx_ar k = some q) : jx_tv k = none := by
  have h1 := jx_c1_all k
  simp only [jx_c1, h, Bool.and_eq_true, Option.isNone_iff_eq_none] at h1
  exact h1.1.1.2.1.1
theorem jx_ar_ok {k t n : Nat} (h : jx_ar k = some (t, n)) : n < 2 ^ 31 ∧ jx_fl k = none := by
  have h1 := jx_c1_all k
  simp only [jx_c1, h, Bool.and_eq_true, Option.isNone_iff_eq_none, decide_eq_true_eq] at h1
  exact ⟨h1.1.1.2.2, h1.1.1.2.1.2⟩
theorem jx_ra_ok {k t n k' : Nat} (h : jx_ra k = some (t, n, k')) : jx_tv k = none ∧ jx_fl k = none ∧ jx_ar k = none ∧ n < 2 ^ 31 ∧ n ≤ jx_ct k' ∧ ∃ ty, jx_tl[t]? = some ty ∧ ty.isReference = true := by
  have h1 := jx_c1_all k
  simp only [jx_c1, h, Bool.and_eq_true, Option.isNone_iff_eq_none, decide_eq_true_eq] at h1
  obtain ⟨⟨⟨⟨⟨g1, g2⟩, g3⟩, g4⟩, g5⟩, g6⟩ := h1.1.2
  refine ⟨g1, g2, g3, g4, g5, ?_⟩
  cases ht : jx_tl[t]? with
  | none => rw [ht] at g6; cases g6
  | some ty => rw [ht] at g6; exact ⟨ty, rfl, g6⟩
theorem jx_tv_ok {k i : Nat} {q : String × String × List Nat} (h : jx_tv k = some q) (hi : i < jx_ct k) : i = 0 ∧ q.2.2.length < 2 ^ 31 := by
  have h1 := jx_c1_all k
  simp only [jx_c1, h, Bool.and_eq_true, decide_eq_true_eq] at h1
  exact ⟨by omega, h1.2.2⟩
theorem jx_cel_tv {k : Nat} (hc : jx_cel k = true) : jx_tv k = none := by
  simp only [jx_cel, Bool.or_eq_true, Option.isSome_iff_exists] at hc
  rcases hc with (⟨q, hq⟩ | ⟨q, hq⟩) | ⟨⟨a, b, d⟩, hq⟩
  · exact jx_tv_fl hq
  · exact jx_tv_ar hq
  · exact (jx_ra_ok hq).1
theorem jx_in_ls (k i : Nat) (hi : i < jx_ct k) (hc : jx_cel k = true) : (k, i) ∈ jx_ls := by
  have h := jx_c1_all k
  simp only [jx_c1, jx_cel_tv hc, Bool.and_eq_true, hc, Bool.not_true, Bool.false_or] at h
  have := List.all_eq_true.mp h.2 i (List.mem_range.mpr hi)
  simpa using this
theorem jx_fl_at {k ci j : Nat} {fs : List (Option (Nat × Option Nat))} {d : Option (Nat × Option Nat)} (h : jx_fl k = some (ci, fs)) (hj : fs[j]? = some d) : ∃ C T N, jx_cl[ci]? = some (C, T, N) ∧ (match d with
    | none => (T j).2.2.2 = false ∧ parseFieldDescriptor (T j).2.2.1 = some .int
    | some (k', some c) => c < jx_ct k'
    | some (k', none) => jx_ct k ≤ jx_ct k') := by
  have h1 := jx_c1_all k
  simp only [jx_c1, h, Bool.and_eq_true] at h1
  have h2 := h1.1.1.1.2
  cases hc : jx_cl[ci]? with
  | none => rw [hc] at h2; cases h2
  | some q =>
    obtain ⟨C, T, N⟩ := q
    rw [hc] at h2
    simp only [Bool.and_eq_true, decide_eq_true_eq] at h2
    obtain ⟨h3, h4⟩ := h2
    have hjl := (List.getElem?_eq_some_iff.mp hj).1
    have h5 := List.all_eq_true.mp h4 j (List.mem_range.mpr (by omega))
    rw [hj] at h5
    refine ⟨C, T, N, rfl, ?_⟩
    match d, h5 with
    | none, h5 => simpa using h5
    | some (k', some c), h5 => simpa using h5
    | some (k', none), h5 => simpa using h5
theorem jx_fl_int {k ci j N : Nat} {fs : List (Option (Nat × Option Nat))} {C : String} {T : u_T} (h : jx_fl k = some (ci, fs)) (hj : fs[j]? = some none) (hc : jx_cl[ci]? = some (C, T, N)) : (T j).2.2.2 = false ∧ parseFieldDescriptor (T j).2.2.1 = some .int := by
  obtain ⟨C', T', N', h1, h2⟩ := jx_fl_at h hj
  cases h1.symm.trans hc
  exact h2
def jx_c2 (q : vw_C) : Bool := match q with
  | (_, T, N) => (List.range N).all (fun a => (parseFieldDescriptor (T a).2.2.1).isSome && (List.range N).all (fun b => (a == b) || !((T a).2.1 == (T b).2.1)))
theorem jx_c2_ok : jx_cl.all jx_c2 = true := by decide +kernel
theorem jx_cl_ok {ci N : Nat} {C : String} {T : u_T} (h : jx_cl[ci]? = some (C, T, N)) : (∀ k, k < N → parseFieldDescriptor (T k).2.2.1 = some ((parseFieldDescriptor (T k).2.2.1).getD .int)) ∧ (∀ a, a < N → ∀ b, b < N → a ≠ b → (T a).2.1 ≠ (T b).2.1) := by
  have h1 := List.all_eq_true.mp jx_c2_ok _ (List.mem_of_getElem? h)
  simp only [jx_c2] at h1
  refine ⟨fun k hk => ?_, fun a ha b hb hab hn => ?_⟩
  · have h2 := List.all_eq_true.mp h1 k (List.mem_range.mpr hk)
    simp only [Bool.and_eq_true] at h2
    cases hp : parseFieldDescriptor (T k).2.2.1 with
    | none => rw [hp] at h2; cases h2.1
    | some ty => rfl
  · have h2 := List.all_eq_true.mp h1 a (List.mem_range.mpr ha)
    simp only [Bool.and_eq_true] at h2
    have h3 := List.all_eq_true.mp h2.2 b (List.mem_range.mpr hb)
    simp [hab, hn] at h3
-- words
abbrev jx_yc (κ : Nat) : String := jx_cn (jx_ow κ)
def jx_cod (κ : Nat) : Cond := .code (jx_nm κ) (jx_cd κ) (jx_mx κ) (jx_rt κ)
def jx_mws (κ : Nat) : List Cond := if jx_is κ = true then [.static (jx_nm κ), .initialized (jx_nm κ).cls] else [.instanceMethod (jx_nm κ), .selects (jx_nm κ).cls (jx_nm κ) (jx_nm κ), .initialized (jx_nm κ).cls]
def jx_fw (e : Nat × Nat × Nat × Nat) : List Cond := match jx_cl[e.2.2.1]? with
  | some (C, T, _) => [.fieldLink (jx_cn e.1) e.2.1 C (T e.2.2.2).2.1 (T e.2.2.2).2.2.1]
  | none => []
def jx_sw1 (e : Nat × Nat × Nat) : List Cond := match jx_tv e.2.2 with
  | some q => [.fieldLink (jx_cn e.1) e.2.1 q.1 q.2.1 "[I"]
  | none => []
def jx_spw (e : Nat × Nat × Nat) : List Cond := if e.2.2 = 0 then [.methodLink (jx_cn e.1) e.2.1 Lib.Math.min.name, .static Lib.Math.min.name, .initialized "java/lang/Math", .code Lib.Math.min.name Lib.Math.min.code 2 (some .int)] else [.methodLink (jx_cn e.1) e.2.1 arraycopyName, .native arraycopyName, .static arraycopyName, .initialized "java/lang/System"]
def jx_oth : List Cond := jx_cl.flatMap (fun c => u_ws c.1 c.2.1 c.2.2) ++ jx_fdl.flatMap jx_fw ++ jx_sdl.flatMap jx_sw1 ++ jx_mdl.map (fun e => .methodLink (jx_cn e.1) e.2.1 (jx_nm e.2.2)) ++ (List.range jx_nn).flatMap jx_mws ++ jx_spl.flatMap jx_spw
def jx_all : List Cond := (List.range jx_nn).map jx_cod ++ jx_oth
def jx_fd (o idx : Nat) : Option (Nat × Nat) := (jx_fdl.find? (fun e => Nat.beq e.1 o && Nat.beq e.2.1 idx)).map (fun e => e.2.2)
def jx_sd (o idx : Nat) : Option Nat := (jx_sdl.find? (fun e => Nat.beq e.1 o && Nat.beq e.2.1 idx)).map (fun e => e.2.2)
def jx_md (o idx : Nat) : Option Nat := (jx_mdl.find? (fun e => Nat.beq e.1 o && Nat.beq e.2.1 idx)).map (fun e => e.2.2)
def jx_sp (o idx : Nat) : Option Nat := (jx_spl.find? (fun e => Nat.beq e.1 o && Nat.beq e.2.1 idx)).map (fun e => e.2.2)
def jx_ex (o idx : Nat) : Option Nat := (jx_exl.find? (fun e => Nat.beq e.1 o && Nat.beq e.2.1 idx)).map (fun e => e.2.2)
theorem jx_fnd {α : Type} {L : List (Nat × Nat × α)} {o idx : Nat} {a : α} (h : (L.find? (fun e => Nat.beq e.1 o && Nat.beq e.2.1 idx)).map (fun e => e.2.2) = some a) : (o, idx, a) ∈ L := by
  cases hf : L.find? (fun e => Nat.beq e.1 o && Nat.beq e.2.1 idx) with
  | none => rw [hf] at h; cases h
  | some q =>
    rw [hf] at h
    have h1 := List.mem_of_find?_eq_some hf
    have h2 := List.find?_some hf
    obtain ⟨a', b', c'⟩ := q
    cases h
    simp only [Bool.and_eq_true] at h2
    rw [Nat.eq_of_beq_eq_true h2.1, Nat.eq_of_beq_eq_true h2.2] at h1
    exact h1
theorem jx_code_in {κ : Nat} (h : κ < jx_nn) : Cond.code (jx_nm κ) (jx_cd κ) (jx_mx κ) (jx_rt κ) ∈ jx_all := List.mem_append_left _ (List.mem_map.mpr ⟨κ, List.mem_range.mpr h, rfl⟩)
theorem jx_oth_good : jx_oth.all goodWord = true := by decide +kernel
theorem jx_all_good : ∀ w ∈ jx_all, (w.onTables && w.keeps) = true ∨ ∃ ty, w = .arrayClass ty := by
  intro w hw
  rcases List.mem_append.mp hw with h | h
  · obtain ⟨κ, -, rfl⟩ := List.mem_map.mp h
    exact Or.inl rfl
  · exact good_of_word (List.all_eq_true.mp jx_oth_good w h)
def jx_c3 (e : Nat × Nat × Nat × Nat) : Bool := match jx_cl[e.2.2.1]? with
  | some (C, T, N) => decide (e.2.2.2 < N) && (T e.2.2.2).1 == C
  | none => false
theorem jx_c3_ok : jx_fdl.all jx_c3 = true := by decide +kernel
theorem jx_fd_ok {o idx ci j : Nat} (h : jx_fd o idx = some (ci, j)) : ∃ C T N, jx_cl[ci]? = some (C, T, N) ∧ j < N ∧ (T j).1 = C ∧ Cond.fieldLink (jx_cn o) idx C (T j).2.1 (T j).2.2.1 ∈ jx_all ∧ ∀ w ∈ u_ws C T N, w ∈ jx_all := by
  have h0 := jx_fnd h
  have h1 := List.all_eq_true.mp jx_c3_ok _ h0
  simp only [jx_c3] at h1
  cases hc : jx_cl[ci]? with
  | none => rw [hc] at h1; cases h1
  | some q =>
    obtain ⟨C, T, N⟩ := q
    rw [hc] at h1
    simp only [Bool.and_eq_true, decide_eq_true_eq, beq_iff_eq] at h1
    refine ⟨C, T, N, rfl, h1.1, h1.2, ?_, fun w hw => ?_⟩
    · refine List.mem_append_right _ (List.mem_append_left _ (List.mem_append_left _ (List.mem_append_left _ (List.mem_append_left _ (List.mem_append_right _ (List.mem_flatMap.mpr ⟨_, h0, ?_⟩))))))
      simp [jx_fw, hc]
    · exact List.mem_append_right _ (List.mem_append_left _ (List.mem_append_left _ (List.mem_append_left _ (List.mem_append_left _ (List.mem_append_left _ (List.mem_flatMap.mpr ⟨_, List.mem_of_getElem? hc, hw⟩))))))
theorem jx_fl_ok {k ci j i k' : Nat} {c : Option Nat} {fs : List (Option (Nat × Option Nat))} (h : jx_fl k = some (ci, fs)) (hj : fs[j]? = some (some (k', c))) (hi : i < jx_ct k) : c.getD i < jx_ct k' := by
  cases c with
  | some c =>
    obtain ⟨C, T, N, -, h2⟩ := jx_fl_at h hj
    exact h2
  | none =>
    obtain ⟨C, T, N, -, h2⟩ := jx_fl_at h hj
    exact Nat.lt_of_lt_of_le hi h2
def jx_c4 (e : Nat × Nat × Nat) : Bool := (jx_tv e.2.2).isSome && decide (0 < jx_ct e.2.2)
theorem jx_c4_ok : jx_sdl.all jx_c4 = true := by decide +kernel
theorem jx_sd_ok {o idx k : Nat} (h : jx_sd o idx = some k) : ∃ q, jx_tv k = some q ∧ Cond.fieldLink (jx_cn o) idx q.1 q.2.1 "[I" ∈ jx_all ∧ 0 < jx_ct k := by
  have h0 := jx_fnd h
  have h1 := List.all_eq_true.mp jx_c4_ok _ h0
  simp only [jx_c4, Bool.and_eq_true, decide_eq_true_eq] at h1
  cases hq : jx_tv k with
  | none => rw [hq] at h1; cases h1.1
  | some q =>
    refine ⟨q, rfl, ?_, h1.2⟩
    refine List.mem_append_right _ (List.mem_append_left _ (List.mem_append_left _ (List.mem_append_left _ (List.mem_append_right _ (List.mem_flatMap.mpr ⟨_, h0, ?_⟩)))))
    simp [jx_sw1, hq]
def jx_c5 (κ : Nat) : Bool := plainName (jx_nm κ).cls && decide ((jx_nm κ).cls ≠ "java/lang/invoke/MethodHandle") && decide ((jx_nm κ).cls ≠ "java/lang/invoke/VarHandle") && decide (jx_mx κ ≤ 45)
  && (if jx_is κ = true then decide ((parseMethodDescriptor (jx_nm κ).desc).map (fun d => d.parameters.length) = some (jx_np κ)) else decide ((parseMethodDescriptor (jx_nm κ).desc).map (fun d => d.parameters.length) = some (jx_np κ - 1)) && (match jx_cl[jx_ow κ]? with
    | some q => q.1 == (jx_nm κ).cls
    | none => false))
theorem jx_c5_ok : ∀ κ, κ < jx_nn → jx_c5 κ = true := by decide +kernel
theorem jx_plain {κ : Nat} (h : κ < jx_nn) : plainName (jx_nm κ).cls = true := by
  have h1 := jx_c5_ok κ h
  simp only [jx_c5, Bool.and_eq_true] at h1
  exact h1.1.1.1.1
theorem jx_mx_le {κ : Nat} (h : κ < jx_nn) : jx_mx κ ≤ 45 := by
  have h1 := jx_c5_ok κ h
  simp only [jx_c5, Bool.and_eq_true, decide_eq_true_eq] at h1
  exact h1.1.2
theorem jx_c6_ok : jx_mdl.all (fun e => decide (e.2.2 < jx_nn)) = true := by decide +kernel
theorem jx_md_in {o idx κ : Nat} (h : jx_md o idx = some κ) : κ < jx_nn ∧ Cond.methodLink (jx_cn o) idx (jx_nm κ) ∈ jx_all ∧ ∀ w ∈ jx_mws κ, w ∈ jx_all := by
  have h0 := jx_fnd h
  have h1 : κ < jx_nn := by simpa using List.all_eq_true.mp jx_c6_ok _ h0
  refine ⟨h1, ?_, fun w hw => ?_⟩
  · exact List.mem_append_right _ (List.mem_append_left _ (List.mem_append_left _ (List.mem_append_right _ (List.mem_map.mpr ⟨_, h0, rfl⟩))))
  · exact List.mem_append_right _ (List.mem_append_left _ (List.mem_append_right _ (List.mem_flatMap.mpr ⟨κ, List.mem_range.mpr h1, hw⟩)))
theorem jx_md_s {o idx κ : Nat} (h : jx_md o idx = some κ) (his : jx_is κ = true) : κ < jx_nn ∧ Cond.methodLink (jx_cn o) idx (jx_nm κ) ∈ jx_all ∧ (Cond.static (jx_nm κ) ∈ jx_all ∧ Cond.initialized (jx_nm κ).cls ∈ jx_all) ∧ (jx_nm κ).cls ≠ "java/lang/invoke/MethodHandle" ∧ (jx_nm κ).cls ≠ "java/lang/invoke/VarHandle" ∧ (parseMethodDescriptor (jx_nm κ).desc).map (fun d => d.parameters.length) = some (jx_np κ) := by
  obtain ⟨h1, h2, h3⟩ := jx_md_in h
  have h4 := jx_c5_ok κ h1
  simp only [jx_c5, Bool.and_eq_true, decide_eq_true_eq, his, if_true] at h4
  simp only [jx_mws, his, if_true] at h3
  exact ⟨h1, h2, ⟨h3 _ (by simp), h3 _ (by simp)⟩, h4.1.1.1.2, h4.1.1.2, h4.2⟩
theorem jx_md_v {o idx κ : Nat} (h : jx_md o idx = some κ) (his : jx_is κ = false) : κ < jx_nn ∧ ∃ C T N, jx_cl[jx_ow κ]? = some (C, T, N) ∧ C = (jx_nm κ).cls ∧ Cond.methodLink (jx_cn o) idx (jx_nm κ) ∈ jx_all ∧ Cond.instanceMethod (jx_nm κ) ∈ jx_all ∧ Cond.selects C (jx_nm κ) (jx_nm κ) ∈ jx_all ∧ Cond.initialized (jx_nm κ).cls ∈ jx_all ∧ (jx_nm κ).cls ≠ "java/lang/invoke/MethodHandle" ∧ (jx_nm κ).cls ≠ "java/lang/invoke/VarHandle" ∧ (parseMethodDescriptor (jx_nm κ).desc).map (fun d => d.parameters.length) = some (jx_np κ - 1) := by
  obtain ⟨h1, h2, h3⟩ := jx_md_in h
  have h4 := jx_c5_ok κ h1
  simp only [jx_c5, Bool.and_eq_true, decide_eq_true_eq, his, Bool.false_eq_true, if_false] at h4
  simp only [jx_mws, his, Bool.false_eq_true, if_false] at h3
  obtain ⟨h5, h6, h7⟩ := h4
  cases hc : jx_cl[jx_ow κ]? with
  | none => rw [hc] at h7; cases h7
  | some q =>
    obtain ⟨C, T, N⟩ := q
    rw [hc] at h7
    have h8 : C = (jx_nm κ).cls := by simpa using h7
    refine ⟨h1, C, T, N, rfl, h8, h2, h3 _ (by simp), ?_, h3 _ (by simp), h5.1.1.2, h5.1.2, h6⟩
    rw [h8]
    exact h3 _ (by simp)
theorem jx_sp_in {o idx x : Nat} (h : jx_sp o idx = some x) : ∀ w ∈ jx_spw (o, idx, x), w ∈ jx_all := fun w hw =>
  List.mem_append_right _ (List.mem_append_right _ (List.mem_flatMap.mpr ⟨_, jx_fnd h, hw⟩))
theorem jx_sp_0 {o idx : Nat} (h : jx_sp o idx = some 0) : Cond.methodLink (jx_cn o) idx Lib.Math.min.name ∈ jx_all ∧ Cond.static Lib.Math.min.name ∈ jx_all ∧ Cond.initialized "java/lang/Math" ∈ jx_all ∧ Cond.code Lib.Math.min.name Lib.Math.min.code 2 (some .int) ∈ jx_all :=
  ⟨jx_sp_in h _ (by simp [jx_spw]), jx_sp_in h _ (by simp [jx_spw]), jx_sp_in h _ (by simp [jx_spw]), jx_sp_in h _ (by simp [jx_spw])⟩
theorem jx_sp_1 {o idx : Nat} (h : jx_sp o idx = some 1) : Cond.methodLink (jx_cn o) idx arraycopyName ∈ jx_all ∧ Cond.native arraycopyName ∈ jx_all ∧ Cond.static arraycopyName ∈ jx_all ∧ Cond.initialized "java/lang/System" ∈ jx_all :=
  ⟨jx_sp_in h _ (by simp [jx_spw]), jx_sp_in h _ (by simp [jx_spw]), jx_sp_in h _ (by simp [jx_spw]), jx_sp_in h _ (by simp [jx_spw])⟩
theorem jx_nfw : nativeFrameWords "java/lang/System" "arraycopy" 5 + 11 + 8 ≤ 48 := by decide +kernel
end
section
/-! The pure machine: values are ints or cells (kind, number); the heap is a function kind, number, slot ↦ int; all references are fixed by the layout. 'jx_op' says in pure terms what one instruction does; 'jx_V' is the judgement W under this picture; 'jx_step' ties them. -/
abbrev jxV : Type := Int32 ⊕ ((Nat × Nat) ⊕ Int32)
abbrev jxH : Type := Nat → Nat → Nat → Int32
abbrev jxG : Type := va_G × (Nat → ClassId) × (Nat → Nat → Nat)
abbrev jxL : Type := List (Option jxV)
/-- an int, a cell, a long that is an int -/
def jx_cv (G : jxG) (v : jxV) : Value := match v with
  | .inl x => .int x
  | .inr (.inl r) => .ref (G.2.2 r.1 r.2)
  | .inr (.inr x) => .long x.toInt64
abbrev jI (x : Int32) : jxV := .inl x
abbrev jR (k i : Nat) : jxV := .inr (.inl (k, i))
abbrev jJ (x : Int32) : jxV := .inr (.inr x)
def jx_w1 (v : jxV) : Prop := match v with
  | .inr (.inr _) => False
  | _ => True
theorem jx_cv_cat (G : jxG) {v : jxV} (h : jx_w1 v) : (jx_cv G v).category = 1 := by
  match v, h with
  | .inl _, _ => rfl
  | .inr (.inl _), _ => rfl
def jx_wg : List jxV → Nat
  | [] => 0
  | .inl _ :: t => jx_wg t + 1
  | .inr (.inl _) :: t => jx_wg t + 1
  | .inr (.inr _) :: t => jx_wg t + 2
def jx_ok (v : jxV) : Prop := match v with
  | .inr (.inl r) => r.2 < jx_ct r.1
  | _ => True
/-- the cell (k, i) gets the contents f -/
def jx_st (h : jxH) (k i : Nat) (f : Nat → Int32) : jxH := fun k' i' => if k' = k then (if i' = i then f else h k' i') else h k' i'
theorem jx_st_same (h : jxH) (k i : Nat) (f : Nat → Int32) : jx_st h k i f k i = f := by simp [jx_st]
theorem jx_st_ne {h : jxH} {k i k' i' : Nat} {f : Nat → Int32} (hn : (k', i') ≠ (k, i)) : jx_st h k i f k' i' = h k' i' := by
  unfold jx_st
  by_cases hk : k' = k
  · by_cases hi : i' = i
    · exact absurd (by rw [hk, hi]) hn
    · rw [if_pos hk, if_neg hi]
  · rw [if_neg hk]
def jx_fv (G : jxG) (i : Nat) (f : Nat → Int32) (j : Nat) (d : Option (Nat × Option Nat)) : Value := match d with
  | none => .int (f j)
  | some q => .ref (G.2.2 q.1 (q.2.getD i))
def jx_cf (G : jxG) (k i : Nat) (f : Nat → Int32) : va_E := match jx_fl k with
  | some q => .inr (q.1, q.2.mapIdx (jx_fv G i f))
  | none => match jx_ar k with
    | some q => .inl (G.2.1 q.1, q.2, cond (Nat.beq q.1 4) (.inr (.inl (fun j => (f j).toInt64))) (.inl f))
    | none => match jx_ra k with
      | some q => .inl (G.2.1 q.1, q.2.1, .inr (.inr (.inr (.inr (fun j => some (G.2.2 q.2.2 j))))))
      | none => .inr (0, [])
def jx_ws (G : jxG) (h : jxH) : va_W := jx_ls.map (fun r => (G.2.2 r.1 r.2, jx_cf G r.1 r.2 (h r.1 r.2)))
theorem jx_at {G : jxG} {h : jxH} {k i q0 : Nat} (h0 : jx_ls[q0]? = some (k, i)) : (jx_ws G h)[q0]? = some (G.2.2 k i, jx_cf G k i (h k i)) := by
  simp [jx_ws, h0]
theorem jx_find {k i : Nat} (hi : i < jx_ct k) (hc : jx_cel k = true) : ∃ q0 : Nat, jx_ls[q0]? = some (k, i) :=
  List.getElem?_of_mem (jx_in_ls k i hi hc)
theorem jx_sets {G : jxG} {A : Nat → Prop} {h : jxH} {k i q0 : Nat} {f : Nat → Int32} (hD : va_D A (jx_ws G h)) (h0 : jx_ls[q0]? = some (k, i)) : (jx_ws G h).set q0 (G.2.2 k i, jx_cf G k i f) = jx_ws G (jx_st h k i f) := by
  apply List.ext_getElem?
  intro j
  by_cases hj : j = q0
  · subst hj
    have hl := (List.getElem?_eq_some_iff.mp (jx_at (G := G) (h := h) h0)).1
    rw [List.getElem?_set_self hl, jx_at h0, jx_st_same]
  · rw [List.getElem?_set_ne (Ne.symm hj)]
    cases hr : jx_ls[j]? with
    | none => simp [jx_ws, hr]
    | some r =>
      obtain ⟨a, b⟩ := r
      have hne : (a, b) ≠ (k, i) := by
        intro hh
        rw [hh] at hr
        exact hj (hD.1 j q0 _ _ (jx_at hr) (jx_at h0) rfl)
      rw [jx_at hr, jx_at hr, jx_st_ne hne]
theorem jx_D_any {G : jxG} {A : Nat → Prop} {h h' : jxH} (hD : va_D A (jx_ws G h)) : va_D A (jx_ws G h') := by
  have key : ∀ (k : Nat) (q : Nat × va_E), (jx_ws G h')[k]? = some q → ∃ q0, (jx_ws G h)[k]? = some q0 ∧ q0.1 = q.1 := by
    intro k q hk
    cases hr : jx_ls[k]? with
    | none => simp [jx_ws, hr] at hk
    | some r =>
      obtain ⟨a, b⟩ := r
      rw [jx_at hr] at hk
      cases hk
      exact ⟨_, jx_at hr, rfl⟩
  refine ⟨fun i j x y hi hj hxy => ?_, fun k q hk => ?_⟩
  · obtain ⟨x0, h1, h2⟩ := key i x hi
    obtain ⟨y0, h3, h4⟩ := key j y hj
    exact hD.1 i j x0 y0 h1 h3 (h2.trans (hxy.trans h4.symm))
  · obtain ⟨q0, h1, h2⟩ := key k q hk
    rw [← h2]
    exact hD.2 k q0 h1
theorem jx_A_any {G : jxG} {h h' : jxH} {sz q : Nat} (hq : va_A (jx_ws G h) sz q) : va_A (jx_ws G h') sz q := by
  rcases hq with ⟨k, e, hk⟩ | hk
  · refine Or.inl ⟨k, ?_⟩
    cases hr : jx_ls[k]? with
    | none => simp [jx_ws, hr] at hk
    | some r =>
      obtain ⟨a, b⟩ := r
      rw [jx_at hr] at hk
      cases hk
      exact ⟨_, jx_at hr⟩
  · exact Or.inr hk
abbrev jx_ty (G : jxG) : List (ClassId × FieldType) := jx_tl.mapIdx (fun j t => (G.2.1 j, t))
theorem jx_ty_at {G : jxG} {j : Nat} {t : FieldType} (h : jx_tl[j]? = some t) : (jx_ty G)[j]? = some (G.2.1 j, t) := by
  simp [jx_ty, h]
/-- the static tables: what they hold, and that nobody writes them -/
def jx_SF (G : jxG) (A : Nat → Prop) (U : State) (H : Heap) : Prop :=
  ∀ k q, jx_tv k = some q → va_Z q.1 q.2.1 "[I" (.ref (G.2.2 k 0)) A U H ∧ va_T .int (G.2.2 k 0) q.2.2.length (fun j => .int (nI (q.2.2.getD j 0))) A U H
def jx_PX (G : jxG) (h : jxH) (U : State) : Prop :=
  va_P G.1 jx_cl (jx_ws G h) U.heap ∧ va_K G.1 jx_cl (jx_ty G) U ∧ va_D (fun _ => True) (jx_ws G h) ∧ jx_SF G (va_A (jx_ws G h) U.heap.size) U U.heap
def jx_rv (κ : Nat) (r : Int32) : Option Value := match jx_rt κ with
  | none => none
  | some _ => some (.int r)
def jx_Qc (G : jxG) (κ : Nat) (A : Nat → Prop) (E : Int32 → jxH → Prop) : Array Value → State → Outcome → State → Prop := fun _ st oc t =>
  (∃ (r : Int32) (h' : jxH), oc = .returned (jx_rv κ r) ∧ E r h' ∧ jx_PX G h' t) ∧ va_F A st t
def jx_rm (κ : Nat) : Room := { frames := jx_dp κ, cells := 0, slots := 0, locals := jx_lc κ }
def jx_wd (κ : Nat) : List Cond := .code (jx_nm κ) (jx_cd κ) (jx_mx κ) (jx_rt κ) :: jx_all
/-- the contract of method κ, at arguments and heap: it returns, with E of its answer and of the heap behind it -/
def jx_MW (κ : Nat) (as : List jxV) (h : jxH) (E : Int32 → jxH → Prop) : Prop :=
  ∀ (l : Launch) (G : jxG) (sz : Nat), (∀ v ∈ as, jx_ok v) → (∀ v ∈ as, jx_w1 v) → Met l (jx_nm κ) (jx_wd κ) (jx_rm κ) (va_Pc (as.map (jx_cv G)) (fun U => U.heap.size = sz ∧ jx_PX G h U)) (jx_Qc G κ (va_A (jx_ws G h) sz) E) 0 0 (va_A (jx_ws G h) sz)
theorem jx_SF_kept {G : jxG} {A : Nat → Prop} {U : State} {H H1 : Heap} (h : jx_SF G A U H) (hq : ∀ a : Nat, a < H.size → ¬ A a → H1[a]? = H[a]?) : jx_SF G A U H1 :=
  fun k q hk => ⟨(h k q hk).1.kept hq, (h k q hk).2.kept hq⟩
theorem jx_SF_moved {G : jxG} {A : Nat → Prop} {u U : State} {H : Heap} (hvm : u.vm.Alike U.vm) (h : jx_SF G A u H) : jx_SF G A U H :=
  fun k q hk => ⟨(h k q hk).1.moved hvm, (h k q hk).2.moved hvm⟩
theorem jx_SF_narrow {G : jxG} {A B : Nat → Prop} {U : State} {H : Heap} (h : jx_SF G A U H) (hAB : ∀ q, B q → A q) : jx_SF G B U H :=
  fun k q hk => ⟨(h k q hk).1.narrow hAB, (h k q hk).2.narrow hAB⟩
theorem jx_MW_mono {κ : Nat} {as : List jxV} {h : jxH} {E E' : Int32 → jxH → Prop} (hM : jx_MW κ as h E) (hE : ∀ r h', E r h' → E' r h') : jx_MW κ as h E' := by
  intro l G sz hok hk1 p e ha hc hk s m args below hf happ hP hK
  obtain ⟨n, o, h1, h2, h3, ⟨⟨⟨r, h', e1, e2, e3⟩, e4⟩, h5⟩⟩ := hM l G sz hok hk1 p e ha hc hk s m args below hf happ hP hK
  exact ⟨n, o, h1, h2, h3, ⟨⟨⟨r, h', e1, hE r h' e2, e3⟩, e4⟩, h5⟩⟩
-- locals
def jx_lo (G : jxG) (la : Array Slot) (nL : Nat) (ls : jxL) : Prop := ls.length ≤ nL ∧ ∃ lv, lv_has la nL lv ∧ ∀ (j : Nat) (v : jxV), ls[j]? = some (some v) → (j, jx_cv G v) ∈ lv ∧ jx_w1 v
theorem jx_lo_at {G : jxG} {la : Array Slot} {nL : Nat} {ls : jxL} (h : jx_lo G la nL ls) {j : Nat} {v : jxV} (hj : ls[j]? = some (some v)) : la[j]? = some (.val (jx_cv G v)) := by
  obtain ⟨-, lv, h1, h2⟩ := h
  exact h1.2.2 _ (h2 j v hj).1
theorem jx_lo_put {G : jxG} {la' : Array Slot} {nL : Nat} {ls : jxL} {lv : List (Nat × Value)} (hn : ls.length ≤ nL) (h2 : ∀ (j : Nat) (v : jxV), ls[j]? = some (some v) → (j, jx_cv G v) ∈ lv ∧ jx_w1 v) {i : Nat} {v : jxV} (hv : jx_w1 v) (h' : lv_has la' nL ((i, jx_cv G v) :: lv.filter (fun q => !(q.1 == i) && !(q.1 + 1 == i && q.2.category == 2)))) : jx_lo G la' nL (ls.set i (some v)) := by
  refine ⟨by simpa using hn, _, h', fun j w hj => ?_⟩
  by_cases hji : j = i
  · subst hji
    have hl : j < ls.length := by
      have := (List.getElem?_eq_some_iff.mp hj).1
      simpa using this
    rw [List.getElem?_set_self hl] at hj
    cases hj
    exact ⟨List.mem_cons_self, hv⟩
  · rw [List.getElem?_set_ne (Ne.symm hji)] at hj
    refine ⟨List.mem_cons_of_mem _ (List.mem_filter.mpr ⟨(h2 j w hj).1, ?_⟩), (h2 j w hj).2⟩
    simp [hji, jx_cv_cat G (h2 j w hj).2]
-- small eliminators, each with its inversion
def jx_1 (st : List jxV) (k : jxV → List jxV → Prop) : Prop := match st with
  | .inl x :: st => k (.inl x) st
  | .inr (.inl r) :: st => k (.inr (.inl r)) st
  | _ => False
def jx_i (st : List jxV) (k : Int32 → List jxV → Prop) : Prop := match st with
  | .inl x :: st => k x st
  | _ => False
def jx_r (st : List jxV) (k : Nat → Nat → List jxV → Prop) : Prop := match st with
  | .inr (.inl (a, b)) :: st => k a b st
  | _ => False
def jx_j (st : List jxV) (k : Int32 → List jxV → Prop) : Prop := match st with
  | .inr (.inr x) :: st => k x st
  | _ => False
theorem jx_1_inv {st : List jxV} {k : jxV → List jxV → Prop} (h : jx_1 st k) : ∃ v st', st = v :: st' ∧ jx_w1 v ∧ k v st' := by
  match st, h with
  | .inl x :: st', h => exact ⟨.inl x, st', rfl, trivial, h⟩
  | .inr (.inl r) :: st', h => exact ⟨.inr (.inl r), st', rfl, trivial, h⟩
theorem jx_j_inv {st : List jxV} {k : Int32 → List jxV → Prop} (h : jx_j st k) : ∃ x st', st = .inr (.inr x) :: st' ∧ k x st' := by
  match st, h with
  | .inr (.inr x) :: st', h => exact ⟨x, st', rfl, h⟩
theorem jx_i_inv {st : List jxV} {k : Int32 → List jxV → Prop} (h : jx_i st k) : ∃ x st', st = .inl x :: st' ∧ k x st' := by
  match st, h with
  | .inl x :: st', h => exact ⟨x, st', rfl, h⟩
theorem jx_r_inv {st : List jxV} {k : Nat → Nat → List jxV → Prop} (h : jx_r st k) : ∃ a b st', st = .inr (.inl (a, b)) :: st' ∧ k a b st' := by
  match st, h with
  | .inr (.inl (a, b)) :: st', h => exact ⟨a, b, st', rfl, h⟩
def jx_sk : jxL → Nat → Option jxV → (jxL → Prop) → Prop
  | [], _, _, _ => False
  | _ :: t, 0, v, k => k (v :: t)
  | a :: t, n + 1, v, k => jx_sk t n v (fun t' => k (a :: t'))
theorem jx_sk_inv : ∀ (ls : jxL) (n : Nat) (v : Option jxV) (k : jxL → Prop), jx_sk ls n v k → n < ls.length ∧ k (ls.set n v)
  | [], _, _, _, h => False.elim h
  | _ :: t, 0, v, k, h => ⟨Nat.succ_pos _, h⟩
  | a :: t, n + 1, v, k, h => by
    obtain ⟨h1, h2⟩ := jx_sk_inv t n v (fun t' => k (a :: t')) h
    exact ⟨Nat.succ_lt_succ h1, h2⟩
def jx_pk : Nat → List jxV → List jxV → (List jxV → List jxV → Prop) → Prop
  | 0, st, acc, k => k acc st
  | n + 1, .inl x :: st, acc, k => jx_pk n st (.inl x :: acc) k
  | n + 1, .inr (.inl r) :: st, acc, k => jx_pk n st (.inr (.inl r) :: acc) k
  | _ + 1, .inr (.inr _) :: _, _, _ => False
  | _ + 1, [], _, _ => False
theorem jx_pk_inv : ∀ (n : Nat) (st acc : List jxV) (k : List jxV → List jxV → Prop), jx_pk n st acc k → ∃ as rest, as.length = n ∧ st = as.reverse ++ rest ∧ (∀ v ∈ as, jx_w1 v) ∧ k (as ++ acc) rest
  | 0, st, acc, k, h => ⟨[], st, rfl, rfl, (fun _ h9 => absurd h9 List.not_mem_nil), h⟩
  | n + 1, .inl x :: st, acc, k, h => by
    obtain ⟨as, rest, h1, h2, h4, h3⟩ := jx_pk_inv n st (.inl x :: acc) k h
    refine ⟨as ++ [.inl x], rest, by simp [h1], by simp [h2], fun v hv => ?_, by simpa using h3⟩
    rcases List.mem_append.mp hv with h9 | h9
    · exact h4 v h9
    · rw [List.mem_singleton.mp h9]; trivial
  | n + 1, .inr (.inl r) :: st, acc, k, h => by
    obtain ⟨as, rest, h1, h2, h4, h3⟩ := jx_pk_inv n st (.inr (.inl r) :: acc) k h
    refine ⟨as ++ [.inr (.inl r)], rest, by simp [h1], by simp [h2], fun v hv => ?_, by simpa using h3⟩
    rcases List.mem_append.mp hv with h9 | h9
    · exact h4 v h9
    · rw [List.mem_singleton.mp h9]; trivial
  | _ + 1, .inr (.inr _) :: _, _, _, h => False.elim h
  | _ + 1, [], _, _, h => False.elim h
def jx_lk (ls : jxL) (n : Nat) (k : jxV → Prop) : Prop := match ls[n]? with
  | some (some v) => k v
  | _ => False
theorem jx_lk_inv {ls : jxL} {n : Nat} {k : jxV → Prop} (h : jx_lk ls n k) : ∃ v, ls[n]? = some (some v) ∧ k v := by
  unfold jx_lk at h
  split at h
  · rename_i v hv; exact ⟨v, hv, h⟩
  · exact h.elim
def jx_int (n : Int) (k : Int32 → Prop) : Prop := match n with
  | .ofNat a => cond (Nat.blt a 2048) (k (nI a)) False
  | .negSucc a => cond (Nat.blt a 100) (k (-nI (a + 1))) False
theorem jx_int_a : ∀ a, a < 2048 → Int32.ofInt (Int.ofNat a) = nI a ∧ (Int16.ofInt (Int.ofNat a)).toInt32 = nI a := by decide +kernel
theorem jx_int_b : ∀ a, a < 128 → (Int8.ofInt (Int.ofNat a)).toInt32 = nI a := by decide +kernel
theorem jx_int_c : ∀ a, a < 100 → Int32.ofInt (Int.negSucc a) = -nI (a + 1) ∧ (Int16.ofInt (Int.negSucc a)).toInt32 = -nI (a + 1) ∧ (Int8.ofInt (Int.negSucc a)).toInt32 = -nI (a + 1) := by decide +kernel
theorem jx_int_inv {n : Int} {k : Int32 → Prop} (h : jx_int n k) : ∃ x, k x ∧ Int32.ofInt n = x ∧ (Int16.ofInt n).toInt32 = x := by
  cases n with
  | ofNat a =>
    by_cases ha : a < 2048
    · have hb : Nat.blt a 2048 = true := by simpa [Nat.blt_eq] using ha
      simp only [jx_int, hb, cond_true] at h
      exact ⟨_, h, (jx_int_a a ha).1, (jx_int_a a ha).2⟩
    · have hb : Nat.blt a 2048 = false := by
        cases hq : Nat.blt a 2048 with
        | false => rfl
        | true => exact absurd (by simpa [Nat.blt_eq] using hq) ha
      simp only [jx_int, hb, cond_false] at h
  | negSucc a =>
    by_cases ha : a < 100
    · have hb : Nat.blt a 100 = true := by simpa [Nat.blt_eq] using ha
      simp only [jx_int, hb, cond_true] at h
      exact ⟨_, h, (jx_int_c a ha).1, (jx_int_c a ha).2.1⟩
    · have hb : Nat.blt a 100 = false := by
        cases hq : Nat.blt a 100 with
        | false => rfl
        | true => exact absurd (by simpa [Nat.blt_eq] using hq) ha
      simp only [jx_int, hb, cond_false] at h
def jx_byt (n : Int) (k : Int32 → Prop) : Prop := match n with
  | .ofNat a => cond (Nat.blt a 128) (k (nI a)) False
  | .negSucc a => cond (Nat.blt a 100) (k (-nI (a + 1))) False
theorem jx_byt_inv {n : Int} {k : Int32 → Prop} (h : jx_byt n k) : ∃ x, k x ∧ (Int8.ofInt n).toInt32 = x := by
  cases n with
  | ofNat a =>
    by_cases ha : a < 128
    · have hb : Nat.blt a 128 = true := by simpa [Nat.blt_eq] using ha
      simp only [jx_byt, hb, cond_true] at h
      exact ⟨_, h, jx_int_b a ha⟩
    · have hb : Nat.blt a 128 = false := by
        cases hq : Nat.blt a 128 with
        | false => rfl
        | true => exact absurd (by simpa [Nat.blt_eq] using hq) ha
      simp only [jx_byt, hb, cond_false] at h
  | negSucc a =>
    by_cases ha : a < 100
    · have hb : Nat.blt a 100 = true := by simpa [Nat.blt_eq] using ha
      simp only [jx_byt, hb, cond_true] at h
      exact ⟨_, h, (jx_int_c a ha).2.2⟩
    · have hb : Nat.blt a 100 = false := by
        cases hq : Nat.blt a 100 with
        | false => rfl
        | true => exact absurd (by simpa [Nat.blt_eq] using hq) ha
      simp only [jx_byt, hb, cond_false] at h
theorem jx_okc {v : jxV} {st : List jxV} (h : jx_ok v) (hs : ∀ v ∈ st, jx_ok v) : ∀ w ∈ v :: st, jx_ok w := by
  intro w hw
  rcases List.mem_cons.mp hw with rfl | h1
  · exact h
  · exact hs w h1
theorem jx_okt {v : jxV} {st : List jxV} (hs : ∀ w ∈ v :: st, jx_ok w) : ∀ w ∈ st, jx_ok w := fun w hw => hs w (List.mem_cons_of_mem _ hw)
theorem jx_okh {v : jxV} {st : List jxV} (hs : ∀ w ∈ v :: st, jx_ok w) : jx_ok v := hs v List.mem_cons_self
theorem jx_oki {x : Int32} {st : List jxV} (hs : ∀ v ∈ st, jx_ok v) : ∀ w ∈ (Sum.inl x : jxV) :: st, jx_ok w := jx_okc trivial hs
theorem jx_lset {ls : jxL} {n : Nat} {v : jxV} (hl : ∀ (j : Nat) (w : jxV), ls[j]? = some (some w) → jx_ok w) (hv : jx_ok v) : ∀ (j : Nat) (w : jxV), (ls.set n (some v))[j]? = some (some w) → jx_ok w := by
  intro j w hj
  by_cases hji : j = n
  · subst hji
    have hlt : j < ls.length := by
      have := (List.getElem?_eq_some_iff.mp hj).1
      simpa using this
    rw [List.getElem?_set_self hlt] at hj
    cases hj
    exact hv
  · rw [List.getElem?_set_ne (Ne.symm hji)] at hj
    exact hl j w hj
def jx_e (st : List jxV) (k : Prop) : Prop := match st with
  | [] => k
  | _ => False
theorem jx_e_inv {st : List jxV} {k : Prop} (h : jx_e st k) : st = [] ∧ k := by
  match st, h with
  | [], h => exact ⟨rfl, h⟩
def jx_t1 (tg : List Nat) (k : Nat → Prop) : Prop := match tg with
  | [t] => k t
  | _ => False
theorem jx_t1_inv {tg : List Nat} {k : Nat → Prop} (h : jx_t1 tg k) : ∃ t, tg = [t] ∧ k t := by
  match tg, h with
  | [t], h => exact ⟨t, rfl, h⟩
def jx_fe (o idx k : Nat) (f : Nat → Option (Nat × Option Nat) → Prop) : Prop := match jx_fl k with
  | some (ci, fs) => match jx_fd o idx with
    | some (ci', j) => match fs[j]? with
      | some d => cond (Nat.beq ci ci') (f j d) False
      | none => False
    | none => False
  | none => False
theorem jx_cond {b : Bool} {a : Prop} (h : cond b a False) : b = true ∧ a := by
  cases b with
  | true => exact ⟨rfl, h⟩
  | false => exact False.elim h
theorem jx_fe_inv {o idx k : Nat} {f : Nat → Option (Nat × Option Nat) → Prop} (h : jx_fe o idx k f) : ∃ ci fs j d, jx_fl k = some (ci, fs) ∧ jx_fd o idx = some (ci, j) ∧ fs[j]? = some d ∧ f j d := by
  unfold jx_fe at h
  cases h1 : jx_fl k with
  | none => rw [h1] at h; exact False.elim h
  | some q =>
    obtain ⟨ci, fs⟩ := q
    rw [h1] at h
    cases h2 : jx_fd o idx with
    | none => simp only [h2] at h
    | some q2 =>
      obtain ⟨ci', j⟩ := q2
      cases h3 : fs[j]? with
      | none => simp only [h2, h3] at h
      | some d =>
        simp only [h2, h3] at h
        obtain ⟨hb, hf⟩ := jx_cond h
        have hb := Nat.eq_of_beq_eq_true hb
        subst hb
        exact ⟨_, fs, j, d, rfl, rfl, h3, hf⟩
def jx_ae (k t : Nat) (f : Nat → Prop) : Prop := match jx_ar k with
  | some (t', n) => cond (Nat.beq t' t) (f n) False
  | none => False
theorem jx_ae_inv {k t : Nat} {f : Nat → Prop} (h : jx_ae k t f) : ∃ n, jx_ar k = some (t, n) ∧ f n := by
  unfold jx_ae at h
  cases h1 : jx_ar k with
  | none => rw [h1] at h; exact False.elim h
  | some q =>
    obtain ⟨t', n⟩ := q
    rw [h1] at h
    obtain ⟨hb, hf⟩ := jx_cond h
    have hb := Nat.eq_of_beq_eq_true hb
    subst hb
    exact ⟨n, rfl, hf⟩
def jx_sw : Nat → List Nat → Int32 → (Nat → Prop) → Prop → Prop
  | _, [], _, _, d => d
  | a, t :: ts, x, k, d => (x = nI a → k t) ∧ (¬ x = nI a → jx_sw (a + 1) ts x k d)
theorem jx_sw_inv : ∀ (ts : List Nat) (a : Nat) (x : Int32) (k : Nat → Prop) (d : Prop), jx_sw a ts x k d → (∃ j t, ts[j]? = some t ∧ x = nI (a + j) ∧ k t) ∨ ((∀ j, j < ts.length → ¬ x = nI (a + j)) ∧ d)
  | [], _, _, _, _, h => Or.inr ⟨fun _ hj => absurd hj (Nat.not_lt_zero _), h⟩
  | t :: ts, a, x, k, d, h => by
    by_cases hx : x = nI a
    · exact Or.inl ⟨0, t, rfl, hx, h.1 hx⟩
    · rcases jx_sw_inv ts (a + 1) x k d (h.2 hx) with ⟨j, t', h1, h2, h3⟩ | ⟨h1, h2⟩
      · exact Or.inl ⟨j + 1, t', by simpa using h1, by rw [h2]; congr 1; omega, h3⟩
      · refine Or.inr ⟨fun j hj => ?_, h2⟩
        cases j with
        | zero => exact hx
        | succ j =>
          have := h1 j (by simpa using hj)
          rwa [show a + 1 + j = a + (j + 1) by omega] at this
/-- what one instruction does: go on at 'go', or end with 'E' -/
def jx_op (κ : Nat) (go : Nat → jxL → List jxV → jxH → Prop) (E : Int32 → jxH → Prop) (TH : Nat → jxH → Prop) (i : Instr) (nx : Nat) (tg : List Nat) (ls : jxL) (st : List jxV) (h : jxH) : Prop :=
  match i with
  | .iconst n => jx_int n (fun x => go nx ls (.inl x :: st) h)
  | .bipush n => jx_byt n (fun x => go nx ls (.inl x :: st) h)
  | .sipush n => jx_int n (fun x => go nx ls (.inl x :: st) h)
  | .iload j => jx_lk ls j (fun v => jx_i (v :: st) (fun x st => go nx ls (.inl x :: st) h))
  | .iload_n j => jx_lk ls j.val (fun v => jx_i (v :: st) (fun x st => go nx ls (.inl x :: st) h))
  | .aload j => jx_lk ls j (fun v => jx_r (v :: st) (fun a b st => go nx ls (.inr (.inl (a, b)) :: st) h))
  | .aload_n j => jx_lk ls j.val (fun v => jx_r (v :: st) (fun a b st => go nx ls (.inr (.inl (a, b)) :: st) h))
  | .istore j => jx_i st (fun x st => jx_sk ls j (some (.inl x)) (fun ls => go nx ls st h))
  | .istore_n j => jx_i st (fun x st => jx_sk ls j.val (some (.inl x)) (fun ls => go nx ls st h))
  | .astore j => jx_r st (fun a b st => jx_sk ls j (some (.inr (.inl (a, b)))) (fun ls => go nx ls st h))
  | .astore_n j => jx_r st (fun a b st => jx_sk ls j.val (some (.inr (.inl (a, b)))) (fun ls => go nx ls st h))
  | .iinc j n => jx_lk ls j (fun v => jx_i (v :: st) (fun x st => jx_int n (fun d => jx_sk ls j (some (.inl (x + d))) (fun ls => go nx ls st h))))
  | .iadd => jx_i st (fun y st => jx_i st (fun x st => go nx ls (.inl (x + y) :: st) h))
  | .isub => jx_i st (fun y st => jx_i st (fun x st => go nx ls (.inl (x - y) :: st) h))
  | .imul => jx_i st (fun y st => jx_i st (fun x st => go nx ls (.inl (x * y) :: st) h))
  | .iand => jx_i st (fun y st => jx_i st (fun x st => go nx ls (.inl (x &&& y) :: st) h))
  | .ior => jx_i st (fun y st => jx_i st (fun x st => go nx ls (.inl (x ||| y) :: st) h))
  | .ixor => jx_i st (fun y st => jx_i st (fun x st => go nx ls (.inl (x ^^^ y) :: st) h))
  | .ishl => jx_i st (fun y st => jx_i st (fun x st => go nx ls (.inl (x <<< (y &&& 31)) :: st) h))
  | .ishr => jx_i st (fun y st => jx_i st (fun x st => go nx ls (.inl (x >>> (y &&& 31)) :: st) h))
  | .idiv => jx_i st (fun y st => jx_i st (fun x st => (¬ y = 0) ∧ go nx ls (.inl (x / y) :: st) h))
  | .irem => jx_i st (fun y st => jx_i st (fun x st => (¬ y = 0) ∧ go nx ls (.inl (x - x / y * y) :: st) h))
  | .dup => jx_1 st (fun v st => go nx ls (v :: v :: st) h)
  | .pop => jx_1 st (fun _ st => go nx ls st h)
  | .dup2 => jx_1 st (fun v st => jx_1 st (fun w st => go nx ls (v :: w :: v :: w :: st) h))
  | .dup_x1 => jx_1 st (fun v st => jx_1 st (fun w st => go nx ls (v :: w :: v :: st) h))
  | .dup_x2 => jx_1 st (fun v st => jx_1 st (fun w st => jx_1 st (fun z st => go nx ls (v :: w :: z :: v :: st) h)))
  | .i2l => jx_i st (fun x st => go nx ls (.inr (.inr x) :: st) h)
  | .lconst n => go nx ls (.inr (.inr (nI n.val)) :: st) h
  | .lcmp => jx_j st (fun y st => jx_j st (fun x st => (x = y → go nx ls (.inl (nI 0) :: st) h) ∧ (¬ x = y → ∀ r, ¬ r = 0 → go nx ls (.inl r :: st) h)))
  | .laload => jx_i st (fun x st => jx_r st (fun k i st => jx_ae k 4 (fun n => ∃ j, (j < n ∧ x = nI j) ∧ go nx ls (.inr (.inr (h k i j)) :: st) h)))
  | .lastore => jx_j st (fun v st => jx_i st (fun x st => jx_r st (fun k i st => jx_ae k 4 (fun n => ∃ j, (j < n ∧ x = nI j) ∧ go nx ls st (jx_st h k i (upd (h k i) j v))))))
  | .tableswitch _ lo _ _ => match tg with
    | d :: ts => jx_i st (fun x st => jx_sw lo.toNat ts x (fun t => go t ls st h) (go d ls st h))
    | [] => False
  | .goto _ => jx_t1 tg (fun t => go t ls st h)
  | .ifCond cd _ => jx_t1 tg (fun t => jx_i st (fun x st => match cd with
    | .eq => (x = 0 → go t ls st h) ∧ (¬ x = 0 → go nx ls st h)
    | .ne => (x = 0 → go nx ls st h) ∧ (¬ x = 0 → go t ls st h)
    | .lt => (x < 0 → go t ls st h) ∧ (¬ x < 0 → go nx ls st h)
    | .ge => (0 ≤ x → go t ls st h) ∧ (¬ 0 ≤ x → go nx ls st h)
    | .gt => (0 < x → go t ls st h) ∧ (¬ 0 < x → go nx ls st h)
    | .le => (x ≤ 0 → go t ls st h) ∧ (¬ x ≤ 0 → go nx ls st h)))
  | .if_icmp cd _ => jx_t1 tg (fun t => jx_i st (fun y st => jx_i st (fun x st => match cd with
    | .eq => (x = y → go t ls st h) ∧ (¬ x = y → go nx ls st h)
    | .ne => (x = y → go nx ls st h) ∧ (¬ x = y → go t ls st h)
    | .lt => (x < y → go t ls st h) ∧ (¬ x < y → go nx ls st h)
    | .ge => (y ≤ x → go t ls st h) ∧ (¬ y ≤ x → go nx ls st h)
    | .gt => (y < x → go t ls st h) ∧ (¬ y < x → go nx ls st h)
    | .le => (x ≤ y → go t ls st h) ∧ (¬ x ≤ y → go nx ls st h))))
  | .getfield idx => jx_r st (fun k i st => jx_fe (jx_ow κ) idx k (fun j d => match d with
    | none => go nx ls (.inl (h k i j) :: st) h
    | some (k', some c) => go nx ls (.inr (.inl (k', c)) :: st) h
    | some (k', none) => go nx ls (.inr (.inl (k', i)) :: st) h))
  | .putfield idx => jx_i st (fun x st => jx_r st (fun k i st => jx_fe (jx_ow κ) idx k (fun j d => match d with
    | none => go nx ls st (jx_st h k i (upd (h k i) j x))
    | some _ => False)))
  | .getstatic idx => match jx_sd (jx_ow κ) idx with
    | some k => go nx ls (.inr (.inl (k, 0)) :: st) h
    | none => False
  | .iaload => jx_i st (fun x st => jx_r st (fun k i st => match jx_tv k with
    | some q => ∃ j, (j < q.2.2.length ∧ x = nI j) ∧ go nx ls (.inl (nI (q.2.2.getD j 0)) :: st) h
    | none => jx_ae k 0 (fun n => ∃ j, (j < n ∧ x = nI j) ∧ go nx ls (.inl (h k i j) :: st) h)))
  | .baload => jx_i st (fun x st => jx_r st (fun k i st => jx_ae k 1 (fun n => ∃ j, (j < n ∧ x = nI j) ∧ go nx ls (.inl (h k i j) :: st) h)))
  | .iastore => jx_i st (fun v st => jx_i st (fun x st => jx_r st (fun k i st => jx_ae k 0 (fun n => ∃ j, (j < n ∧ x = nI j) ∧ go nx ls st (jx_st h k i (upd (h k i) j v))))))
  | .bastore => jx_i st (fun v st => jx_i st (fun x st => jx_r st (fun k i st => jx_ae k 1 (fun n => ∃ j, (j < n ∧ x = nI j ∧ (v = nI 0 ∨ v = nI 1)) ∧ go nx ls st (jx_st h k i (upd (h k i) j v))))))
  | .aaload => jx_i st (fun x st => jx_r st (fun k _ st => match jx_ra k with
    | some (_, n, k') => ∃ j, (j < n ∧ x = nI j) ∧ go nx ls (.inr (.inl (k', j)) :: st) h
    | none => False))
  | .ireturn => jx_i st (fun x st => jx_e st (match jx_rt κ with
    | some .int => E x h
    | some .boolean => (x = nI 0 ∨ x = nI 1) ∧ E x h
    | _ => False))
  | .new idx => jx_e st (match jx_ex (jx_ow κ) idx with
    | some x => TH x h
    | none => False)
  | .return_ => jx_e st (match jx_rt κ with
    | none => E (nI 0) h
    | some _ => False)
  | .invokevirtual idx => match jx_md (jx_ow κ) idx with
    | some κ' => jx_pk (jx_np κ') st [] (fun as rest => match as with
      | .inr (.inl (k, b)) :: as' => match jx_fl k with
        | some (ci, _) => cond (Nat.beq ci (jx_ow κ') && (jx_is κ' == false) && Nat.ble (jx_wg rest) 8 && Nat.blt (jx_dp κ') (jx_dp κ) && Nat.ble (19 + jx_mx κ' + jx_lc κ') (jx_lc κ)) (match jx_rt κ' with
          | none => jx_MW κ' (.inr (.inl (k, b)) :: as') h (fun _ h' => go nx ls rest h')
          | some _ => jx_MW κ' (.inr (.inl (k, b)) :: as') h (fun r h' => go nx ls (.inl r :: rest) h')) False
        | none => False
      | _ => False)
    | none => False
  | .invokestatic idx => match jx_md (jx_ow κ) idx with
    | some κ' => jx_pk (jx_np κ') st [] (fun as rest => cond (jx_is κ' && Nat.ble (jx_wg rest) 8 && Nat.blt (jx_dp κ') (jx_dp κ) && Nat.ble (19 + jx_mx κ' + jx_lc κ') (jx_lc κ)) (match jx_rt κ' with
          | none => jx_MW κ' as h (fun _ h' => go nx ls rest h')
          | some _ => jx_MW κ' as h (fun r h' => go nx ls (.inl r :: rest) h')) False)
    | none => match jx_sp (jx_ow κ) idx with
      | some 0 => jx_i st (fun y st => jx_i st (fun x st => cond (Nat.ble (jx_wg st) 8 && Nat.blt 0 (jx_dp κ) && Nat.ble 21 (jx_lc κ)) (go nx ls (.inl (if y < x then y else x) :: st) h) False))
      | some 1 => jx_i st (fun n st => jx_i st (fun dp st => jx_r st (fun k1 i1 st => jx_i st (fun sp st => jx_r st (fun k0 i0 st => jx_ae k0 0 (fun n0 => jx_ae k1 0 (fun n1 => cond (Nat.ble (jx_wg st) 8 && Nat.blt 0 (jx_dp κ) && Nat.ble 48 (jx_lc κ)) (∃ a b c, (sp = nI a ∧ dp = nI b ∧ n = nI c ∧ a + c ≤ n0 ∧ b + c ≤ n1) ∧ go nx ls st (jx_st h k1 i1 (va_cpy (h k0 i0) (h k1 i1) a b c))) False)))))))
      | _ => False
  | _ => False
end
section
/-! The pure machine is sound: jx_op gives W. -/
def jx_V (p : Program) (l : Launch) (e : Env) (R : Room) (s : State) (m : MethodId) (args : Array Value) (below : List Frame) (meth : Method) (c : Code) (G : jxG) (A : Nat → Prop) (κ cs ss : Nat) (Qf : State → Prop) (pc : Nat) (ls : jxL) (st : List jxV) (h : jxH) : Prop :=
  ∀ (H : Heap) (locs : List Loc) (la : Array Slot), jx_lo G la (jx_mx κ) ls → (∀ v ∈ st, jx_ok v) → (∀ (j : Nat) (v : jxV), ls[j]? = some (some v) → jx_ok v) → va_P G.1 jx_cl (jx_ws G h) H → va_S A s.heap H locs → W p l e R s m args below meth c H locs cs ss Qf (F0 m pc la (st.map (jx_cv G)))
/-- what stands throughout a walk of method κ -/
def jx_X (p : Program) (R : Room) (s : State) (m : MethodId) (args : Array Value) (meth : Method) (c : Code) (G : jxG) (A : Nat → Prop) (κ cs ss : Nat) : Prop :=
  p.tables.exec = Jvm.exec ∧ c.code = jx_cd κ ∧ c.maxLocals = jx_mx κ ∧ s.vm.findClass (jx_cn (jx_ow κ)) = some m.cls ∧ (∀ w ∈ jx_all, w.before args s = true) ∧ va_K G.1 jx_cl (jx_ty G) s ∧ (∀ h, va_D A (jx_ws G h)) ∧ jx_SF G A s s.heap ∧ (∀ h sz q, s.heap.size ≤ sz → va_A (jx_ws G h) sz q → A q) ∧ meth.sig.returnType = jx_rt κ ∧ meth.locks = false ∧ κ < jx_nt ∧ jx_dp κ ≤ R.frames ∧ jx_lc κ ≤ R.locals ∧ cs ≤ R.cells ∧ ss ≤ R.slots
theorem jx_cats (G : jxG) : ∀ st : List jxV, ((st.map (jx_cv G)).map fun v => v.category).sum = jx_wg st
  | [] => rfl
  | .inl x :: st => by
    show (1 : Nat) + ((st.map (jx_cv G)).map fun v => v.category).sum = jx_wg st + 1
    rw [jx_cats G st]
    exact Nat.add_comm _ _
  | .inr (.inl r) :: st => by
    show (1 : Nat) + ((st.map (jx_cv G)).map fun v => v.category).sum = jx_wg st + 1
    rw [jx_cats G st]
    exact Nat.add_comm _ _
  | .inr (.inr x) :: st => by
    show (2 : Nat) + ((st.map (jx_cv G)).map fun v => v.category).sum = jx_wg st + 2
    rw [jx_cats G st]
    exact Nat.add_comm _ _
theorem jx_good {κ' : Nat} (h : κ' < jx_nn) : GoodIn jx_all (jx_wd κ') := by
  intro w hw
  rcases List.mem_cons.mp hw with rfl | h1
  · exact ⟨jx_code_in h, Or.inl rfl⟩
  · exact ⟨h1, jx_all_good w h1⟩
theorem jx_Wmono {p : Program} {l : Launch} {e : Env} {R : Room} {s : State} {m : MethodId} {args : Array Value} {below : List Frame} {meth : Method} {c : Code} {H : Heap} {locs : List Loc} {cells slots : Nat} {Q Q' : State → Prop} {g : JFrame} (h : ∀ t, Q t → Q' t) (k : W p l e R s m args below meth c H locs cells slots Q g) : W p l e R s m args below meth c H locs cells slots Q' g := by
  intro T hT X
  obtain ⟨t, a, b⟩ := k T hT X
  exact ⟨t, a, h t b⟩
theorem jx_aald {p : Program} {l : Launch} {e : Env} {R : Room} {s : State} {m : MethodId} {args : Array Value} {below : List Frame} {meth : Method} {c : Code} {H : Heap} {locs : List Loc} {cells slots : Nat} {Q : State → Prop} {cc : ByteArray} {pc : Nat} {la : Array Slot} {rest : List Value} {D : va_G} {cl : List vw_C} {ws : va_W} {q0 a n : Nat} {cA : ClassId} {f : Nat → Option Nat} {ty : FieldType} {i : Int32}
    (hx : p.tables.exec = Jvm.exec) (hb : c.code = cc) (hat : ws[q0]? = some (a, .inl (cA, n, .inr (.inr (.inr (.inr f)))))) (hP : va_P D cl ws H) (harr : s.isArrayOf (arrV cA n (fun j => va_rf (f j))) ty) (hty : ty.isReference = true) (hin : vp_in i n) (hdg : decode cc pc = .ok (.aaload, 1))
    (kk : W p l e R s m args below meth c H locs cells slots Q (F0 m (pc + 1) la (va_rf (f i.toNatClampNeg) :: rest))) : W p l e R s m args below meth c H locs cells slots Q (F0 m pc la (.int i :: .ref a :: rest)) := by
  have hlt : i.toNatClampNeg < n := Nat.not_le.mp fun q => hin (Or.inr q)
  exact W.aald (v := va_rf (f i.toNatClampNeg)) (ty := ty) hx hb (hP q0 _ hat) harr hty (fun q => by cases q) (by show ¬ (i < 0 ∨ (arrV _ _ _).slots.size ≤ _); rw [arrV_size]; exact hin) (by show (arrV _ _ _).slots[_]? = _; rw [arrV_read _ _ hlt]) rfl rfl hdg kk
section JS
variable {p : Program} {l : Launch} {e : Env} {R : Room} {s : State} {m : MethodId} {args : Array Value} {below : List Frame} {meth : Method} {c : Code} {G : jxG} {A : Nat → Prop} {κ cs ss : Nat} {E : Int32 → jxH → Prop}
theorem jx_run {κ' : Nat} {as : List jxV} {rest : List jxV} {h : jxH} {E' : Int32 → jxH → Prop} {pc : Nat} {la : Array Slot} {st : List jxV} {H : Heap} {locs : List Loc} {Qf : State → Prop} {a : Array Value}
    (X : jx_X p R s m args meth c G A κ cs ss) (hS : va_S A s.heap H locs)
    (hr : va_Run p l e R s m args below meth c H locs cs ss 0 0 (F0 m pc la (st.map (jx_cv G))) (rest.map (jx_cv G)) (jx_Qc G κ' (va_A (jx_ws G h) H.size) E' a) (va_A (jx_ws G h) H.size))
    (kk : ∀ (r : Int32) (h' : jxH) (H1 : Heap) (locs1 : List Loc), E' r h' → va_P G.1 jx_cl (jx_ws G h') H1 → va_S A s.heap H1 locs1 → W p l e R s m args below meth c H1 locs1 cs ss Qf (F0 m (pc + 3) la ((jx_rv κ' r).toList ++ rest.map (jx_cv G)))) :
    W p l e R s m args below meth c H locs cs ss Qf (F0 m pc la (st.map (jx_cv G))) := by
  obtain ⟨-, -, -, -, -, -, -, -, hAw, -⟩ := X
  intro T hT Y
  obtain ⟨v, st₀, t, T', L, h0, Y', hL, e1, e2, ⟨⟨r, h', hv, hE, hPX⟩, hz, hk⟩, stp⟩ := hr T hT Y
  cases hv
  rw [h0] at hz hk
  have hsub : ∀ q, va_A (jx_ws G h) H.size q → A q := fun q hq => hAw h H.size q hS.1 hq
  obtain ⟨t2, a1, b1⟩ := kk r h' T'.heap (locs ++ L) hE (by rw [e1]; exact hPX.1)
    ⟨Nat.le_trans hS.1 (by rw [e1]; exact hz), fun q h1 h2 => by rw [e1, hk q (Nat.lt_of_lt_of_le h1 hS.1) (fun z => h2 (hsub q z))]; exact hS.2.1 q h1 h2, fun q hq => by
      rcases List.mem_append.mp hq with h9 | h9
      · exact hS.2.2 q h9
      · exact hsub _ (hL q h9)⟩ T' rfl Y'
  exact ⟨t2, stp t2 a1, b1⟩
theorem jx_pcc {κ' : Nat} {as : List jxV} {h : jxH} {H : Heap} {locs : List Loc} (X : jx_X p R s m args meth c G A κ cs ss) (hP : va_P G.1 jx_cl (jx_ws G h) H) (hS : va_S A s.heap H locs) :
    PreS s H (va_Pc (as.map (jx_cv G)) (fun U => U.heap.size = H.size ∧ jx_PX G h U)) (as.map (jx_cv G)) := by
  obtain ⟨-, -, -, -, -, hK, hD, hSF, hAw, -⟩ := X
  refine ⟨fun a U g mk q => ?_, fun U hU hW => ?_⟩
  · obtain ⟨q0, q1, qP, qK, qD, qS⟩ := q
    exact ⟨q0, q1, qP, va_K.moved (u := U) (U := U.calling g mk a) (Vm.Alike.refl U.vm) qK, qD, jx_SF_moved (u := U) (U := U.calling g mk a) (Vm.Alike.refl U.vm) qS⟩
  · refine ⟨rfl, by rw [hU], by rw [hU]; exact hP, va_K.moved hW.alike hK, (hD h).weaken (fun _ _ _ _ => trivial), ?_⟩
    rw [hU]
    exact jx_SF_narrow (jx_SF_moved hW.alike (jx_SF_kept hSF hS.2.1)) (fun q hq => hAw h H.size q hS.1 hq)
theorem jx_callS {κ' idx : Nat} {as rest : List jxV} {h : jxH} {E' : Int32 → jxH → Prop} {pc : Nat} {la : Array Slot} {H : Heap} {locs : List Loc} {Qf : State → Prop}
    (X : jx_X p R s m args meth c G A κ cs ss) (hP : va_P G.1 jx_cl (jx_ws G h) H) (hS : va_S A s.heap H locs) (hla : la.size = jx_mx κ) (hok : ∀ v ∈ as, jx_ok v) (hk1 : ∀ v ∈ as, jx_w1 v) (hmd : jx_md (jx_ow κ) idx = some κ') (hn : as.length = jx_np κ') (his : jx_is κ' = true) (hrest : jx_wg rest ≤ 8) (hdp : jx_dp κ' < jx_dp κ) (hlc : 19 + jx_mx κ' + jx_lc κ' ≤ jx_lc κ)
    (hM : jx_MW κ' as h E') (hdg : decode (jx_cd κ) pc = .ok (.invokestatic idx, 3))
    (kk : ∀ (r : Int32) (h' : jxH) (H1 : Heap) (locs1 : List Loc), E' r h' → va_P G.1 jx_cl (jx_ws G h') H1 → va_S A s.heap H1 locs1 → W p l e R s m args below meth c H1 locs1 cs ss Qf (F0 m (pc + 3) la ((jx_rv κ' r).toList ++ rest.map (jx_cv G)))) :
    W p l e R s m args below meth c H locs cs ss Qf (F0 m pc la ((as.reverse ++ rest).map (jx_cv G))) := by
  have X0 := X
  obtain ⟨hx, hb, hml, hown, hts, hK, hD, hSF, hAw, hret, hlk, hκ, hR1, hR2, hR3, hR4⟩ := X
  obtain ⟨hκ', hw1, hw2, hd1, hd2, hd3⟩ := jx_md_s hmd his
  have hin := hts
  refine jx_run (κ' := κ') (as := as) X0 hS (va_runS (As := as.map (jx_cv G)) (rest := rest.map (jx_cv G)) (n := jx_np κ') ⟨hx, hb, hml, hown, hts⟩ (hM l G H.size hok hk1) ⟨callB_of (bytes := jx_cd κ') (maxL := jx_mx κ') (ret := jx_rt κ') (jx_np κ') hts (jx_good hκ') rfl rfl rfl (hin _ hw2.2) (hin _ hw1) ⟨hd1, hd2, hd3⟩ ?_, hin _ hw2.1⟩ (jx_pcc (κ' := κ') X0 hP hS) rfl (by simpa using hn) hla ?_ ?_ hdg ⟨hR3, hR4⟩) kk
  · exact ⟨Nat.le_trans hdp hR1, by show 8 + (jx_mx κ' + 11) + jx_lc κ' ≤ R.locals; omega⟩
  · show (as.reverse ++ rest).map (jx_cv G) = _
    simp
  · exact lv_room (by rw [jx_cats]; exact hrest)
theorem jx_callV {κ' idx k b : Nat} {as rest : List jxV} {h : jxH} {E' : Int32 → jxH → Prop} {pc : Nat} {la : Array Slot} {H : Heap} {locs : List Loc} {Qf : State → Prop} {fs : List (Option (Nat × Option Nat))}
    (X : jx_X p R s m args meth c G A κ cs ss) (hP : va_P G.1 jx_cl (jx_ws G h) H) (hS : va_S A s.heap H locs) (hla : la.size = jx_mx κ) (hok : ∀ v ∈ jR k b :: as, jx_ok v) (hk1 : ∀ v ∈ jR k b :: as, jx_w1 v) (hmd : jx_md (jx_ow κ) idx = some κ') (hn : as.length + 1 = jx_np κ') (hfl : jx_fl k = some (jx_ow κ', fs)) (his : jx_is κ' = false) (hrest : jx_wg rest ≤ 8) (hdp : jx_dp κ' < jx_dp κ) (hlc : 19 + jx_mx κ' + jx_lc κ' ≤ jx_lc κ)
    (hM : jx_MW κ' (jR k b :: as) h E') (hdg : decode (jx_cd κ) pc = .ok (.invokevirtual idx, 3))
    (kk : ∀ (r : Int32) (h' : jxH) (H1 : Heap) (locs1 : List Loc), E' r h' → va_P G.1 jx_cl (jx_ws G h') H1 → va_S A s.heap H1 locs1 → W p l e R s m args below meth c H1 locs1 cs ss Qf (F0 m (pc + 3) la ((jx_rv κ' r).toList ++ rest.map (jx_cv G)))) :
    W p l e R s m args below meth c H locs cs ss Qf (F0 m pc la (((jR k b :: as).reverse ++ rest).map (jx_cv G))) := by
  have X0 := X
  obtain ⟨hx, hb, hml, hown, hts, hK, hD, hSF, hAw, hret, hlk, hκ, hR1, hR2, hR3, hR4⟩ := X
  obtain ⟨hκ', C, T, N, hcl, hC, hw1, hw2, hw3, hw4, hd1, hd2, hd3⟩ := jx_md_v hmd his
  have hin := hts
  have hkb : b < jx_ct k := hok _ List.mem_cons_self
  obtain ⟨q0, hq0⟩ := jx_find hkb (by simp [jx_cel, hfl])
  have hat := jx_at (G := G) (h := h) hq0
  have hcf : jx_cf G k b (h k b) = .inr (jx_ow κ', fs.mapIdx (jx_fv G b (h k b))) := by simp [jx_cf, hfl]
  rw [hcf] at hat
  have hrecv := va_recv hK hP hcl hat
  have hpc := jx_pcc (κ' := κ') (as := jR k b :: as) X0 hP hS
  refine jx_run (κ' := κ') (as := jR k b :: as) X0 hS (va_runV (C := C) (b := G.2.2 k b) (As := as.map (jx_cv G)) (rest := rest.map (jx_cv G)) (n := as.length) ⟨hx, hb, hml, hown, hts⟩ (hM l G H.size hok hk1) ⟨callB_of (bytes := jx_cd κ') (maxL := jx_mx κ') (ret := jx_rt κ') as.length hts (jx_good hκ') rfl rfl rfl (hin _ hw4) (hin _ hw1) ⟨hd1, hd2, by rw [hd3]; congr 1; omega⟩ ?_, hin _ hw2, hin _ hw3⟩ ⟨hpc.1, hrecv, hpc.2⟩ rfl (by simp) hla ?_ ?_ hdg ⟨hR3, hR4⟩) kk
  · exact ⟨Nat.le_trans hdp hR1, by show 8 + (jx_mx κ' + 11) + jx_lc κ' ≤ R.locals; omega⟩
  · show (((jR k b :: as).reverse ++ rest).map (jx_cv G)) = _
    simp [jx_cv]
  · exact lv_room (by rw [jx_cats]; exact hrest)
end JS
end
section
/-! One instruction, then a block, then a method: from the pure machine to the contract jx_MW. -/
theorem jx_lc2 : ∀ n : Fin 2, Int64.ofNat (n : Nat) = (nI n.val).toInt64 := by decide +kernel
section JT
variable {p : Program} {l : Launch} {e : Env} {R : Room} {s : State} {m : MethodId} {args : Array Value} {below : List Frame} {meth : Method} {c : Code} {G : jxG} {A : Nat → Prop} {κ cs ss : Nat} {E : Int32 → jxH → Prop} {TH : Nat → jxH → Prop} {Qf : State → Prop}
set_option maxHeartbeats 4000000 in
set_option maxRecDepth 100000 in
theorem jx_step {go : Nat → jxL → List jxV → jxH → Prop} (X : jx_X p R s m args meth c G A κ cs ss) (hfin : ∀ t, MQ below (jx_Qc G κ A E) args s cs ss A t → Qf t) (hth : ∀ pc nx idx tg ls h x, jx_ent κ pc = some (.new idx, nx, tg) → jx_ex (jx_ow κ) idx = some x → TH x h → jx_V p l e R s m args below meth c G A κ cs ss Qf pc ls [] h) (hgo : ∀ pc ls st h, go pc ls st h → jx_V p l e R s m args below meth c G A κ cs ss Qf pc ls st h)
    {pc nx : Nat} {i : Instr} {tg : List Nat} {ls : jxL} {st : List jxV} {h : jxH} (hent : jx_ent κ pc = some (i, nx, tg)) (hs : jx_op κ go E TH i nx tg ls st h) : jx_V p l e R s m args below meth c G A κ cs ss Qf pc ls st h := by
  have X0 := X
  obtain ⟨hx, hb, hml, hown, hts, hK, hD, hSF, hAw, hret, hlocks, hκ, hR1, hR2, hR3, hR4⟩ := X
  obtain ⟨hentA, htg, hsw⟩ := jx_ent_ok hκ hent
  have hin := hts
  intro H locs la hl hst hls hP hS
  have hls0 : la.size = jx_mx κ := by
    obtain ⟨-, lv, h1, -⟩ := hl
    exact h1.1
  have K : ∀ {pc' : Nat} {ls' : jxL} {st' : List jxV} {h' : jxH} {H' : Heap} {locs' : List Loc} {la' : Array Slot}, go pc' ls' st' h' → jx_lo G la' (jx_mx κ) ls' → (∀ v ∈ st', jx_ok v) → (∀ (j : Nat) (v : jxV), ls'[j]? = some (some v) → jx_ok v) → va_P G.1 jx_cl (jx_ws G h') H' → va_S A s.heap H' locs' → W p l e R s m args below meth c H' locs' cs ss Qf (F0 m pc' la' (st'.map (jx_cv G))) := fun hk a1 a2 a3 a4 a5 => hgo _ _ _ _ hk _ _ _ a1 a2 a3 a4 a5
  unfold jx_op at hs
  by_cases hlen0 : 0 < jx_len i
  case neg =>
    cases i with
    | tableswitch d0 lo hi offs =>
      match tg, hs with
      | d :: ts, hs =>
        obtain ⟨x, st', rfl, hk⟩ := jx_i_inv hs
        obtain ⟨hdec, hlo, hhi, hd, hts9⟩ := hsw d0 lo hi offs rfl d ts rfl
        rcases jx_sw_inv ts lo.toNat x _ _ hk with ⟨j, t, h1, h2, h3⟩ | ⟨h1, h2⟩
        · have hjl := (List.getElem?_eq_some_iff.mp h1).1
          obtain ⟨o, ho1, ho2, hsz⟩ := hts9 j t h1
          have hxi : x.toInt = lo + j := by rw [h2, nI_toInt (by omega)]; omega
          exact lv_tableIn hx hb hdec (by omega) (by omega) (by rw [hxi, show (lo + (j : Int) - lo).toNat = j by omega]; exact ho1) ho2 (K h3 hl (jx_okt hst) hls hP hS)
        · refine lv_tableOut hx hb hdec ?_ hd (K h2 hl (jx_okt hst) hls hP hS)
          by_cases hc1 : x.toInt < lo
          · exact Or.inl hc1
          · by_cases hc2 : hi < x.toInt
            · exact Or.inr hc2
            · exfalso
              refine h1 (x.toInt - lo).toNat (by omega) ?_
              apply Int32.toInt_inj.mp
              rw [nI_toInt (by have := x.toInt_lt; omega)]
              omega
    | _ => first | exact False.elim hs | exact absurd (Nat.succ_pos _) hlen0
  obtain ⟨hdec, hnx⟩ := hentA hlen0
  subst hnx
  cases i with
  | iconst n =>
    obtain ⟨x, hk, e1, -⟩ := jx_int_inv hs
    exact lv_iconst (v := x) hx hb hdec e1 (K hk hl (jx_oki hst) hls hP hS)
  | bipush n =>
    obtain ⟨x, hk, e1⟩ := jx_byt_inv hs
    exact lv_bipush (v := x) hx hb hdec e1 (K hk hl (jx_oki hst) hls hP hS)
  | sipush n =>
    obtain ⟨x, hk, -, e1⟩ := jx_int_inv hs
    exact lv_sipush (v := x) hx hb hdec e1 (K hk hl (jx_oki hst) hls hP hS)
  | iload j =>
    obtain ⟨v, hv, hk⟩ := jx_lk_inv hs
    obtain ⟨x, st', e1, hk2⟩ := jx_i_inv hk
    cases e1
    exact lv_iload (x := x) hx hb hdec (jx_lo_at hl hv) (K hk2 hl (jx_oki hst) hls hP hS)
  | iload_n j =>
    obtain ⟨v, hv, hk⟩ := jx_lk_inv hs
    obtain ⟨x, st', e1, hk2⟩ := jx_i_inv hk
    cases e1
    exact lv_iload_n (x := x) (i := j.val) hx hb hdec rfl (jx_lo_at hl hv) (K hk2 hl (jx_oki hst) hls hP hS)
  | aload j =>
    obtain ⟨v, hv, hk⟩ := jx_lk_inv hs
    obtain ⟨a, b, st', e1, hk2⟩ := jx_r_inv hk
    cases e1
    exact lv_aload (x := G.2.2 a b) hx hb hdec (jx_lo_at hl hv) (K hk2 hl (jx_okc (hls _ _ hv) hst) hls hP hS)
  | aload_n j =>
    obtain ⟨v, hv, hk⟩ := jx_lk_inv hs
    obtain ⟨a, b, st', e1, hk2⟩ := jx_r_inv hk
    cases e1
    exact lv_aload_n (x := G.2.2 a b) (i := j.val) hx hb hdec rfl (jx_lo_at hl hv) (K hk2 hl (jx_okc (hls _ _ hv) hst) hls hP hS)
  | istore j =>
    obtain ⟨x, st', rfl, hk⟩ := jx_i_inv hs
    obtain ⟨hj, hk2⟩ := jx_sk_inv _ _ _ _ hk
    obtain ⟨hn, lv, h1, h2⟩ := hl
    refine lv_istore (x := x) hx hb hdec h1 (Nat.lt_of_lt_of_le hj hn) rfl (fun la' h' => ?_)
    exact K hk2 (jx_lo_put (v := .inl x) hn h2 trivial h') (jx_okt hst) (jx_lset hls trivial) hP hS
  | istore_n j =>
    obtain ⟨x, st', rfl, hk⟩ := jx_i_inv hs
    obtain ⟨hj, hk2⟩ := jx_sk_inv _ _ _ _ hk
    obtain ⟨hn, lv, h1, h2⟩ := hl
    refine lv_istore_n (x := x) (i := j.val) hx hb hdec rfl h1 (Nat.lt_of_lt_of_le hj hn) rfl (fun la' h' => ?_)
    exact K hk2 (jx_lo_put (v := .inl x) hn h2 trivial h') (jx_okt hst) (jx_lset hls trivial) hP hS
  | astore j =>
    obtain ⟨a, b, st', rfl, hk⟩ := jx_r_inv hs
    obtain ⟨hj, hk2⟩ := jx_sk_inv _ _ _ _ hk
    obtain ⟨hn, lv, h1, h2⟩ := hl
    refine lv_astore (x := G.2.2 a b) hx hb hdec h1 (Nat.lt_of_lt_of_le hj hn) rfl (fun la' h' => ?_)
    exact K hk2 (jx_lo_put (v := jR a b) hn h2 trivial h') (jx_okt hst) (jx_lset hls (jx_okh hst)) hP hS
  | astore_n j =>
    obtain ⟨a, b, st', rfl, hk⟩ := jx_r_inv hs
    obtain ⟨hj, hk2⟩ := jx_sk_inv _ _ _ _ hk
    obtain ⟨hn, lv, h1, h2⟩ := hl
    refine lv_astore_n (x := G.2.2 a b) (i := j.val) hx hb hdec rfl h1 (Nat.lt_of_lt_of_le hj hn) rfl (fun la' h' => ?_)
    exact K hk2 (jx_lo_put (v := jR a b) hn h2 trivial h') (jx_okt hst) (jx_lset hls (jx_okh hst)) hP hS
  | iinc j n =>
    obtain ⟨v, hv, hk⟩ := jx_lk_inv hs
    obtain ⟨x, st', e1, hk2⟩ := jx_i_inv hk
    cases e1
    obtain ⟨d, hk2, e2, -⟩ := jx_int_inv hk2
    obtain ⟨hj, hk3⟩ := jx_sk_inv _ _ _ _ hk2
    obtain ⟨hn, lv, h1, h2⟩ := hl
    obtain ⟨kk, hkk⟩ := List.getElem?_of_mem (h2 j _ hv).1
    refine lv_iinc (x := x) (v := x + d) hx hb hdec h1 hkk (by rw [e2]) (Nat.lt_of_lt_of_le hj hn) rfl (fun la' h' => ?_)
    exact K hk3 (jx_lo_put (v := .inl (x + d)) hn h2 trivial h') hst (jx_lset hls trivial) hP hS
  | iadd =>
    obtain ⟨y, st', rfl, hk⟩ := jx_i_inv hs
    obtain ⟨x, st'', rfl, hk2⟩ := jx_i_inv hk
    exact lv_iadd hx hb hdec (K hk2 hl (jx_oki (jx_okt (jx_okt hst))) hls hP hS)
  | isub =>
    obtain ⟨y, st', rfl, hk⟩ := jx_i_inv hs
    obtain ⟨x, st'', rfl, hk2⟩ := jx_i_inv hk
    exact lv_isub hx hb hdec (K hk2 hl (jx_oki (jx_okt (jx_okt hst))) hls hP hS)
  | imul =>
    obtain ⟨y, st', rfl, hk⟩ := jx_i_inv hs
    obtain ⟨x, st'', rfl, hk2⟩ := jx_i_inv hk
    exact lv_imul hx hb hdec (K hk2 hl (jx_oki (jx_okt (jx_okt hst))) hls hP hS)
  | iand =>
    obtain ⟨y, st', rfl, hk⟩ := jx_i_inv hs
    obtain ⟨x, st'', rfl, hk2⟩ := jx_i_inv hk
    exact lv_iand hx hb hdec (K hk2 hl (jx_oki (jx_okt (jx_okt hst))) hls hP hS)
  | ior =>
    obtain ⟨y, st', rfl, hk⟩ := jx_i_inv hs
    obtain ⟨x, st'', rfl, hk2⟩ := jx_i_inv hk
    exact lv_ior hx hb hdec (K hk2 hl (jx_oki (jx_okt (jx_okt hst))) hls hP hS)
  | ixor =>
    obtain ⟨y, st', rfl, hk⟩ := jx_i_inv hs
    obtain ⟨x, st'', rfl, hk2⟩ := jx_i_inv hk
    exact lv_ixor hx hb hdec (K hk2 hl (jx_oki (jx_okt (jx_okt hst))) hls hP hS)
  | ishl =>
    obtain ⟨y, st', rfl, hk⟩ := jx_i_inv hs
    obtain ⟨x, st'', rfl, hk2⟩ := jx_i_inv hk
    exact lv_ishl hx hb hdec (K hk2 hl (jx_oki (jx_okt (jx_okt hst))) hls hP hS)
  | ishr =>
    obtain ⟨y, st', rfl, hk⟩ := jx_i_inv hs
    obtain ⟨x, st'', rfl, hk2⟩ := jx_i_inv hk
    exact lv_ishr hx hb hdec (K hk2 hl (jx_oki (jx_okt (jx_okt hst))) hls hP hS)
  | idiv =>
    obtain ⟨y, st', rfl, hk⟩ := jx_i_inv hs
    obtain ⟨x, st'', rfl, hk2⟩ := jx_i_inv hk
    exact lv_idiv hx hb hdec hk2.1 (K hk2.2 hl (jx_oki (jx_okt (jx_okt hst))) hls hP hS)
  | irem =>
    obtain ⟨y, st', rfl, hk⟩ := jx_i_inv hs
    obtain ⟨x, st'', rfl, hk2⟩ := jx_i_inv hk
    exact lv_irem hx hb hdec hk2.1 (K hk2.2 hl (jx_oki (jx_okt (jx_okt hst))) hls hP hS)
  | dup =>
    obtain ⟨v, st', rfl, kv, hk⟩ := jx_1_inv hs
    exact lv_dup hx hb hdec (jx_cv_cat G kv) (K hk hl (jx_okc (jx_okh hst) hst) hls hP hS)
  | pop =>
    obtain ⟨v, st', rfl, kv, hk⟩ := jx_1_inv hs
    exact lv_pop hx hb hdec (jx_cv_cat G kv) (K hk hl (jx_okt hst) hls hP hS)
  | dup2 =>
    obtain ⟨v, st', rfl, kv, hk⟩ := jx_1_inv hs
    obtain ⟨w, st'', rfl, kw, hk2⟩ := jx_1_inv hk
    exact lv_dup2_11 hx hb hdec (jx_cv_cat G kv) (jx_cv_cat G kw) (K hk2 hl (jx_okc (jx_okh hst) (jx_okc (jx_okh (jx_okt hst)) hst)) hls hP hS)
  | dup_x1 =>
    obtain ⟨v, st', rfl, kv, hk⟩ := jx_1_inv hs
    obtain ⟨w, st'', rfl, kw, hk2⟩ := jx_1_inv hk
    exact lv_dup_x1 hx hb hdec (jx_cv_cat G kv) (jx_cv_cat G kw) (K hk2 hl (jx_okc (jx_okh hst) (jx_okc (jx_okh (jx_okt hst)) (jx_okc (jx_okh hst) (jx_okt (jx_okt hst))))) hls hP hS)
  | dup_x2 =>
    obtain ⟨v, st', rfl, kv, hk⟩ := jx_1_inv hs
    obtain ⟨w, st'', rfl, kw, hk2⟩ := jx_1_inv hk
    obtain ⟨z, st3, rfl, kz, hk3⟩ := jx_1_inv hk2
    exact lv_dup_x2 hx hb hdec (jx_cv_cat G kv) (jx_cv_cat G kw) (jx_cv_cat G kz) (K hk3 hl (jx_okc (jx_okh hst) (jx_okc (jx_okh (jx_okt hst)) (jx_okc (jx_okh (jx_okt (jx_okt hst))) (jx_okc (jx_okh hst) (jx_okt (jx_okt (jx_okt hst))))))) hls hP hS)
  | i2l =>
    obtain ⟨x, st', rfl, hk⟩ := jx_i_inv hs
    exact lv_i2l hx hb hdec rfl (K hk hl (jx_okc (v := jJ x) trivial (jx_okt hst)) hls hP hS)
  | lconst n =>
    exact lv_lconst (v := (nI n.val).toInt64) hx hb hdec (jx_lc2 n) (K hs hl (jx_okc (v := jJ (nI n.val)) trivial hst) hls hP hS)
  | lcmp =>
    obtain ⟨y, st1, rfl, hk⟩ := jx_j_inv hs
    obtain ⟨x, st', rfl, hk2⟩ := jx_j_inv hk
    have hst' := jx_okt (jx_okt hst)
    refine W.lcmp hx hb hdec ?_
    by_cases hxy : x = y
    · subst hxy
      have e0 : lg_cmp x.toInt64 x.toInt64 = nI 0 := by
        rw [nI_0]
        exact (lg_cmp_eq _ _).mpr rfl
      rw [e0]
      exact K (hk2.1 rfl) hl (jx_oki hst') hls hP hS
    · have hne : ¬ x.toInt64 = y.toInt64 := fun q => hxy (by have := congrArg Int64.toInt32 q; simpa using this)
      exact K (hk2.2 hxy _ (fun q => hne ((lg_cmp_eq _ _).mp q))) hl (jx_oki hst') hls hP hS
  | laload =>
    obtain ⟨x, st1, rfl, hk⟩ := jx_i_inv hs
    obtain ⟨k, b, st', rfl, hk2⟩ := jx_r_inv hk
    have hkb : b < jx_ct k := jx_okh (jx_okt hst)
    obtain ⟨n, har, j, ⟨hj, rfl⟩, hk3⟩ := jx_ae_inv hk2
    obtain ⟨q0, hq0⟩ := jx_find hkb (by simp [jx_cel, har])
    have hat := jx_at (G := G) (h := h) hq0
    have hlen := (jx_ar_ok har).1
    have hcf : jx_cf G k b (h k b) = .inl (G.2.1 4, n, .inr (.inl (fun j => (h k b j).toInt64))) := by simp [jx_cf, har, (jx_ar_ok har).2]
    rw [hcf] at hat
    have hc : (nI j).toNatClampNeg = j := nI_clamp (by omega)
    refine va_lald hx hb hK hP q0 4 hat (jx_ty_at rfl) (vp_in_nI hj hlen) hdec ?_
    rw [hc]
    exact K hk3 hl (jx_okc (v := jJ (h k b j)) trivial (jx_okt (jx_okt hst))) hls hP hS
  | lastore =>
    obtain ⟨v, st1, rfl, hk⟩ := jx_j_inv hs
    obtain ⟨x, st2, rfl, hk2⟩ := jx_i_inv hk
    obtain ⟨k, b, st', rfl, hk3⟩ := jx_r_inv hk2
    have hkb : b < jx_ct k := jx_okh (jx_okt (jx_okt hst))
    obtain ⟨n, har, j, ⟨hj, rfl⟩, hk4⟩ := jx_ae_inv hk3
    obtain ⟨q0, hq0⟩ := jx_find hkb (by simp [jx_cel, har])
    have hat := jx_at (G := G) (h := h) hq0
    have hlen := (jx_ar_ok har).1
    have hcf : ∀ f : Nat → Int32, jx_cf G k b f = .inl (G.2.1 4, n, .inr (.inl (fun j => (f j).toInt64))) := fun f => by simp [jx_cf, har, (jx_ar_ok har).2]
    rw [hcf] at hat
    have hc : (nI j).toNatClampNeg = j := nI_clamp (by omega)
    refine va_last hx hb hK hP (hD h) hS q0 4 hat (jx_ty_at rfl) (vp_in_nI hj hlen) hdec (fun H1 locs1 hP1 _ hS1 => ?_)
    have hup : vp_updL (fun j => (h k b j).toInt64) j v.toInt64 = fun q => (upd (h k b) j v q).toInt64 := by
      funext q
      unfold vp_updL upd
      split <;> rfl
    rw [hc, hup, ← hcf (upd (h k b) j v), jx_sets (hD h) hq0] at hP1
    exact K hk4 hl (jx_okt (jx_okt (jx_okt hst))) hls hP1 hS1
  | tableswitch d0 lo hi offs => exact absurd hlen0 (Nat.lt_irrefl 0)
  | goto o =>
    obtain ⟨t, rfl, hk⟩ := jx_t1_inv hs
    exact lv_goto hx hb hdec (htg o rfl t rfl) (K hk hl hst hls hP hS)
  | ifCond cd o =>
    obtain ⟨t, rfl, hk⟩ := jx_t1_inv hs
    obtain ⟨x, st', rfl, hk2⟩ := jx_i_inv hk
    have ht := htg o rfl t rfl
    have hst' := jx_okt hst
    cases cd with
    | eq => exact lv_if_eq hx hb hdec ht (fun q => K (hk2.1 q) hl hst' hls hP hS) (fun q => K (hk2.2 q) hl hst' hls hP hS)
    | ne => exact lv_if_ne hx hb hdec ht (fun q => K (hk2.2 q) hl hst' hls hP hS) (fun q => K (hk2.1 q) hl hst' hls hP hS)
    | lt => exact lv_if_lt hx hb hdec ht (fun q => K (hk2.1 q) hl hst' hls hP hS) (fun q => K (hk2.2 q) hl hst' hls hP hS)
    | ge => exact lv_if_ge hx hb hdec ht (fun q => K (hk2.1 q) hl hst' hls hP hS) (fun q => K (hk2.2 q) hl hst' hls hP hS)
    | gt => exact lv_if_gt hx hb hdec ht (fun q => K (hk2.1 q) hl hst' hls hP hS) (fun q => K (hk2.2 q) hl hst' hls hP hS)
    | le => exact lv_if_le hx hb hdec ht (fun q => K (hk2.1 q) hl hst' hls hP hS) (fun q => K (hk2.2 q) hl hst' hls hP hS)
  | if_icmp cd o =>
    obtain ⟨t, rfl, hk⟩ := jx_t1_inv hs
    obtain ⟨y, st', rfl, hk2⟩ := jx_i_inv hk
    obtain ⟨x, st'', rfl, hk3⟩ := jx_i_inv hk2
    have ht := htg o rfl t rfl
    have hst' := jx_okt (jx_okt hst)
    cases cd with
    | eq => exact lv_icmp_eq hx hb hdec ht (fun q => K (hk3.1 q) hl hst' hls hP hS) (fun q => K (hk3.2 q) hl hst' hls hP hS)
    | ne => exact lv_icmp_ne hx hb hdec ht (fun q => K (hk3.2 q) hl hst' hls hP hS) (fun q => K (hk3.1 q) hl hst' hls hP hS)
    | lt => exact lv_icmp_lt hx hb hdec ht (fun q => K (hk3.1 q) hl hst' hls hP hS) (fun q => K (hk3.2 q) hl hst' hls hP hS)
    | ge => exact lv_icmp_ge hx hb hdec ht (fun q => K (hk3.1 q) hl hst' hls hP hS) (fun q => K (hk3.2 q) hl hst' hls hP hS)
    | gt => exact lv_icmp_gt hx hb hdec ht (fun q => K (hk3.1 q) hl hst' hls hP hS) (fun q => K (hk3.2 q) hl hst' hls hP hS)
    | le => exact lv_icmp_le hx hb hdec ht (fun q => K (hk3.1 q) hl hst' hls hP hS) (fun q => K (hk3.2 q) hl hst' hls hP hS)
  | getfield idx =>
    obtain ⟨k, b, st', rfl, hk⟩ := jx_r_inv hs
    obtain ⟨ci, fs, j, d, hfl, hfd, hj, hk2⟩ := jx_fe_inv hk
    have hkb : b < jx_ct k := jx_okh hst
    obtain ⟨q0, hq0⟩ := jx_find hkb (by simp [jx_cel, hfl])
    have hat := jx_at (G := G) (h := h) hq0
    have hcf : jx_cf G k b (h k b) = .inr (ci, fs.mapIdx (jx_fv G b (h k b))) := by simp [jx_cf, hfl]
    rw [hcf] at hat
    obtain ⟨C, T, N, hcl, hjN, hC, hw, hu⟩ := jx_fd_ok hfd
    have hgo2 : W p l e R s m args below meth c H locs cs ss Qf (F0 m (pc + 3) la (jx_fv G b (h k b) j d :: st'.map (jx_cv G))) := by
      match d, hj, hk2 with
      | none, hj, hk2 => exact K hk2 hl (jx_oki (jx_okt hst)) hls hP hS
      | some (k', some c'), hj, hk2 => exact K hk2 hl (jx_okc (jx_fl_ok hfl hj hkb) (jx_okt hst)) hls hP hS
      | some (k', none), hj, hk2 => exact K hk2 hl (jx_okc (jx_fl_ok hfl hj hkb) (jx_okt hst)) hls hP hS
    exact va_get (D := G.1) (ci := ci) (C := C) (T := T) (N := N) hx hb hin hu hown hK hP q0 hat hcl j hjN (hin _ hw) (fun x h9 => by rw [hC] at h9; exact h9) (by simp [hj]) hdec hgo2
  | putfield idx =>
    obtain ⟨x, st1, rfl, hk⟩ := jx_i_inv hs
    obtain ⟨k, b, st', rfl, hk2⟩ := jx_r_inv hk
    obtain ⟨ci, fs, j, d, hfl, hfd, hj, hk3⟩ := jx_fe_inv hk2
    match d, hj, hk3 with
    | none, hj, hk3 =>
      have hkb : b < jx_ct k := jx_okh (jx_okt hst)
      obtain ⟨q0, hq0⟩ := jx_find hkb (by simp [jx_cel, hfl])
      have hat := jx_at (G := G) (h := h) hq0
      have hcf : ∀ f, jx_cf G k b f = .inr (ci, fs.mapIdx (jx_fv G b f)) := fun f => by simp [jx_cf, hfl]
      rw [hcf] at hat
      obtain ⟨C, T, N, hcl, hjN, hC, hw, hu⟩ := jx_fd_ok hfd
      obtain ⟨hfin, hpar⟩ := jx_fl_int hfl hj hcl
      obtain ⟨hty, hnm⟩ := jx_cl_ok hcl
      have hjl : j < fs.length := (List.getElem?_eq_some_iff.mp hj).1
      refine va_put (D := G.1) (ci := ci) (v := .int x) (ty := .int) (C := C) (T := T) (N := N) hx hb hin hu _ hty hnm hown hK hP (hD h) hS q0 hat hcl j hjN (hin _ hw) (fun x h9 => by rw [hC] at h9; exact h9) hfin hpar rfl rfl (by simpa using hjl) hdec (fun H1 locs1 hP1 _ hS1 => ?_)
      have hset : (fs.mapIdx (jx_fv G b (h k b))).set j (.int x) = fs.mapIdx (jx_fv G b (upd (h k b) j x)) := by
        apply List.ext_getElem?
        intro n
        by_cases hn : n = j
        · subst hn
          rw [List.getElem?_set_self (by simpa using hjl)]
          simp [hj, jx_fv, upd]
        · rw [List.getElem?_set_ne (Ne.symm hn)]
          simp only [List.getElem?_mapIdx]
          cases hfn : fs[n]? with
          | none => rfl
          | some d2 =>
            cases d2 with
            | none => simp [jx_fv, upd, hn]
            | some q => simp [jx_fv]
      rw [hset, ← hcf, jx_sets (hD h) hq0] at hP1
      exact K hk3 hl (jx_okt (jx_okt hst)) hls hP1 hS1
    | some q, hj, hk3 => exact False.elim hk3
  | getstatic idx =>
    cases hsd : jx_sd (jx_ow κ) idx with
    | none => simp only [hsd] at hs
    | some k =>
      simp only [hsd] at hs
      obtain ⟨q, hq, hw, hct⟩ := jx_sd_ok hsd
      exact va_gets (v := .ref (G.2.2 k 0)) hx hb (hSF k q hq).1 hS hown (hin _ hw) (fun _ h9 => h9) hdec (K hs hl (jx_okc (v := jR k 0) hct hst) hls hP hS)
  | iaload =>
    obtain ⟨x, st1, rfl, hk⟩ := jx_i_inv hs
    obtain ⟨k, b, st', rfl, hk2⟩ := jx_r_inv hk
    have hkb : b < jx_ct k := jx_okh (jx_okt hst)
    cases htv : jx_tv k with
    | some q =>
      simp only [htv] at hk2
      obtain ⟨j, ⟨hj, rfl⟩, hk3⟩ := hk2
      obtain ⟨hb0, hlen⟩ := jx_tv_ok htv hkb
      subst hb0
      have hc : (nI j).toNatClampNeg = j := nI_clamp (by omega)
      exact va_ti (v := .int (nI (q.2.2.getD j 0))) hx hb (hSF k q htv).2 hS (vp_in_nI hj (by omega)) (by rw [hc]) hdec (K hk3 hl (jx_oki (jx_okt (jx_okt hst))) hls hP hS)
    | none =>
      simp only [htv] at hk2
      obtain ⟨n, har, j, ⟨hj, rfl⟩, hk4⟩ := jx_ae_inv hk2
      obtain ⟨q0, hq0⟩ := jx_find hkb (by simp [jx_cel, har])
      have hat := jx_at (G := G) (h := h) hq0
      have hlen := (jx_ar_ok har).1
      have hcf : jx_cf G k b (h k b) = .inl (G.2.1 0, n, .inl (h k b)) := by simp [jx_cf, har, (jx_ar_ok har).2]; rfl
      rw [hcf] at hat
      have hc : (nI j).toNatClampNeg = j := nI_clamp (by omega)
      refine va_iald hx hb hK hP q0 0 hat (jx_ty_at rfl) (vp_in_nI hj hlen) hdec ?_
      rw [hc]
      exact K hk4 hl (jx_oki (jx_okt (jx_okt hst))) hls hP hS
  | baload =>
    obtain ⟨x, st1, rfl, hk⟩ := jx_i_inv hs
    obtain ⟨k, b, st', rfl, hk2⟩ := jx_r_inv hk
    have hkb : b < jx_ct k := jx_okh (jx_okt hst)
    obtain ⟨n, har, j, ⟨hj, rfl⟩, hk3⟩ := jx_ae_inv hk2
    obtain ⟨q0, hq0⟩ := jx_find hkb (by simp [jx_cel, har])
    have hat := jx_at (G := G) (h := h) hq0
    have hlen := (jx_ar_ok har).1
    have hcf : jx_cf G k b (h k b) = .inl (G.2.1 1, n, .inl (h k b)) := by simp [jx_cf, har, (jx_ar_ok har).2]; rfl
    rw [hcf] at hat
    have hc : (nI j).toNatClampNeg = j := nI_clamp (by omega)
    refine va_zald hx hb hK hP q0 1 hat (jx_ty_at rfl) (vp_in_nI hj hlen) hdec ?_
    rw [hc]
    exact K hk3 hl (jx_oki (jx_okt (jx_okt hst))) hls hP hS
  | iastore =>
    obtain ⟨v, st1, rfl, hk⟩ := jx_i_inv hs
    obtain ⟨x, st2, rfl, hk2⟩ := jx_i_inv hk
    obtain ⟨k, b, st', rfl, hk3⟩ := jx_r_inv hk2
    have hkb : b < jx_ct k := jx_okh (jx_okt (jx_okt hst))
    obtain ⟨n, har, j, ⟨hj, rfl⟩, hk4⟩ := jx_ae_inv hk3
    obtain ⟨q0, hq0⟩ := jx_find hkb (by simp [jx_cel, har])
    have hat := jx_at (G := G) (h := h) hq0
    have hlen := (jx_ar_ok har).1
    have hcf : ∀ f, jx_cf G k b f = .inl (G.2.1 0, n, .inl f) := fun f => by simp [jx_cf, har, (jx_ar_ok har).2]; rfl
    rw [hcf] at hat
    have hc : (nI j).toNatClampNeg = j := nI_clamp (by omega)
    refine va_iast hx hb hK hP (hD h) hS q0 0 hat (jx_ty_at rfl) (vp_in_nI hj hlen) hdec (fun H1 locs1 hP1 _ hS1 => ?_)
    rw [hc, ← hcf, jx_sets (hD h) hq0] at hP1
    exact K hk4 hl (jx_okt (jx_okt (jx_okt hst))) hls hP1 hS1
  | bastore =>
    obtain ⟨v, st1, rfl, hk⟩ := jx_i_inv hs
    obtain ⟨x, st2, rfl, hk2⟩ := jx_i_inv hk
    obtain ⟨k, b, st', rfl, hk3⟩ := jx_r_inv hk2
    have hkb : b < jx_ct k := jx_okh (jx_okt (jx_okt hst))
    obtain ⟨n, har, j, ⟨hj, rfl, hv⟩, hk4⟩ := jx_ae_inv hk3
    obtain ⟨q0, hq0⟩ := jx_find hkb (by simp [jx_cel, har])
    have hat := jx_at (G := G) (h := h) hq0
    have hlen := (jx_ar_ok har).1
    have hcf : ∀ f, jx_cf G k b f = .inl (G.2.1 1, n, .inl f) := fun f => by simp [jx_cf, har, (jx_ar_ok har).2]; rfl
    rw [hcf] at hat
    have hc : (nI j).toNatClampNeg = j := nI_clamp (by omega)
    have hnv : vp_nar .boolean v = v := by rcases hv with rfl | rfl <;> decide +kernel
    refine va_zast hx hb hK hP (hD h) hS q0 1 hat (jx_ty_at rfl) (vp_in_nI hj hlen) hdec (fun H1 locs1 hP1 _ hS1 => ?_)
    rw [hc, hnv, ← hcf, jx_sets (hD h) hq0] at hP1
    exact K hk4 hl (jx_okt (jx_okt (jx_okt hst))) hls hP1 hS1
  | aaload =>
    obtain ⟨x, st1, rfl, hk⟩ := jx_i_inv hs
    obtain ⟨k, b, st', rfl, hk2⟩ := jx_r_inv hk
    have hkb : b < jx_ct k := jx_okh (jx_okt hst)
    cases hra : jx_ra k with
    | none => simp only [hra] at hk2
    | some q =>
      obtain ⟨t, n, k'⟩ := q
      simp only [hra] at hk2
      obtain ⟨j, ⟨hj, rfl⟩, hk3⟩ := hk2
      obtain ⟨htv, hfl0, har0, hlen, hct, ty, hty, href⟩ := jx_ra_ok hra
      obtain ⟨q0, hq0⟩ := jx_find hkb (by simp [jx_cel, hra])
      have hat := jx_at (G := G) (h := h) hq0
      have hcf : jx_cf G k b (h k b) = .inl (G.2.1 t, n, .inr (.inr (.inr (.inr (fun j => some (G.2.2 k' j)))))) := by simp [jx_cf, hra, hfl0, har0]
      rw [hcf] at hat
      have hc : (nI j).toNatClampNeg = j := nI_clamp (by omega)
      have hgo2 : W p l e R s m args below meth c H locs cs ss Qf (F0 m (pc + 1) la (va_rf (some (G.2.2 k' (nI j).toNatClampNeg)) :: st'.map (jx_cv G))) := by
        rw [hc]
        exact K hk3 hl (jx_okc (v := jR k' j) (Nat.lt_of_lt_of_le hj hct) (jx_okt (jx_okt hst))) hls hP hS
      have harr := (hK.2 t _ (jx_ty_at hty)).1 n (fun j => va_rf (some (G.2.2 k' j)))
      exact jx_aald hx hb hat hP harr href (vp_in_nI hj hlen) hdec hgo2
  | ireturn =>
    obtain ⟨x, st1, rfl, hk⟩ := jx_i_inv hs
    obtain ⟨rfl, hk2⟩ := jx_e_inv hk
    have hend : ∀ (hE : E x h) (hrv : jx_rv κ x = some (.int x)), ∀ t : State, t.heap = H → s.WarmedH t.vm → jx_Qc G κ A E args s (.returned (some (.int x))) t := by
      intro hE hrv t ht hW
      refine ⟨⟨x, h, by rw [hrv], hE, by rw [ht]; exact hP, va_K.moved hW.alike hK, (hD h).weaken (fun _ _ _ _ => trivial), ?_⟩, hS.F ht⟩
      rw [ht]
      exact jx_SF_narrow (jx_SF_moved hW.alike (jx_SF_kept hSF hS.2.1)) (fun q hq => hAw h H.size q hS.1 hq)
    match hrt : jx_rt κ, hk2 with
    | some .int, hk2 => exact jx_Wmono hfin (W.iret hx hb (by rw [hret, hrt]) (hend hk2 (by simp [jx_rv, hrt])) hS.2.2 hdec)
    | some .boolean, hk2 => exact jx_Wmono hfin (W.zret (ty := .boolean) hx hb (by rw [hret, hrt]) (by rcases hk2.1 with rfl | rfl <;> decide +kernel) (hend hk2.2 (by simp [jx_rv, hrt])) hS.2.2 hdec)
  | new idx =>
    obtain ⟨rfl, hk⟩ := jx_e_inv hs
    cases hex : jx_ex (jx_ow κ) idx with
    | none => simp only [hex] at hk
    | some x =>
      simp only [hex] at hk
      exact hth _ _ _ _ ls h x hent hex hk H locs la hl hst hls hP hS
  | return_ =>
    obtain ⟨rfl, hk⟩ := jx_e_inv hs
    match hrt : jx_rt κ, hk with
    | none, hk =>
      refine jx_Wmono hfin (W.vret hx hb (by rw [hret, hrt]) (fun t ht hW => ?_) hS.2.2 hdec)
      refine ⟨⟨nI 0, h, by simp [jx_rv, hrt], hk, by rw [ht]; exact hP, va_K.moved hW.alike hK, (hD h).weaken (fun _ _ _ _ => trivial), ?_⟩, hS.F ht⟩
      rw [ht]
      exact jx_SF_narrow (jx_SF_moved hW.alike (jx_SF_kept hSF hS.2.1)) (fun q hq => hAw h H.size q hS.1 hq)
  | invokevirtual idx =>
    cases hmd : jx_md (jx_ow κ) idx with
    | none => simp only [hmd] at hs
    | some κ' =>
      simp only [hmd] at hs
      obtain ⟨as, rest, hlen, rfl, hk1, hk⟩ := jx_pk_inv _ _ _ _ hs
      rw [List.append_nil] at hk
      match as, hlen, hst, hk1, hk with
      | .inr (.inl (k, b)) :: as', hlen, hst, hk1, hk =>
        cases hfl : jx_fl k with
        | none => simp only [hfl] at hk
        | some q =>
          obtain ⟨ci, fs⟩ := q
          simp only [hfl] at hk
          obtain ⟨hcd, hk2⟩ := jx_cond hk
          simp only [Bool.and_eq_true, beq_iff_eq, Nat.ble_eq, Nat.blt_eq] at hcd
          obtain ⟨⟨⟨⟨hci, his⟩, hrl⟩, hdp⟩, hlc⟩ := hcd
          have hci := Nat.eq_of_beq_eq_true hci
          subst hci
          have hoka : ∀ v ∈ jR k b :: as', jx_ok v := fun v hv => hst v (List.mem_append_left _ (List.mem_reverse.mpr hv))
          have hokr : ∀ v ∈ rest, jx_ok v := fun v hv => hst v (List.mem_append_right _ hv)
          match hrt : jx_rt κ', hk2 with
          | none, hk2 =>
            refine jx_callV X0 hP hS hls0 hoka hk1 hmd (by simpa using hlen) hfl his hrl hdp hlc hk2 hdec (fun r h' H1 locs1 hE hP1 hS1 => ?_)
            rw [show jx_rv κ' r = none by simp [jx_rv, hrt]]
            exact K hE hl hokr hls hP1 hS1
          | some ty, hk2 =>
            refine jx_callV X0 hP hS hls0 hoka hk1 hmd (by simpa using hlen) hfl his hrl hdp hlc hk2 hdec (fun r h' H1 locs1 hE hP1 hS1 => ?_)
            rw [show jx_rv κ' r = some (.int r) by simp [jx_rv, hrt]]
            exact K hE hl (jx_oki hokr) hls hP1 hS1
  | invokestatic idx =>
    cases hmd : jx_md (jx_ow κ) idx with
    | some κ' =>
      simp only [hmd] at hs
      obtain ⟨as, rest, hlen, rfl, hk1, hk⟩ := jx_pk_inv _ _ _ _ hs
      rw [List.append_nil] at hk
      obtain ⟨hcd, hk2⟩ := jx_cond hk
      simp only [Bool.and_eq_true, Nat.ble_eq, Nat.blt_eq] at hcd
      obtain ⟨⟨⟨his, hrl⟩, hdp⟩, hlc⟩ := hcd
      have hoka : ∀ v ∈ as, jx_ok v := fun v hv => hst v (List.mem_append_left _ (List.mem_reverse.mpr hv))
      have hokr : ∀ v ∈ rest, jx_ok v := fun v hv => hst v (List.mem_append_right _ hv)
      match hrt : jx_rt κ', hk2 with
      | none, hk2 =>
        refine jx_callS X0 hP hS hls0 hoka hk1 hmd hlen his hrl hdp hlc hk2 hdec (fun r h' H1 locs1 hE hP1 hS1 => ?_)
        rw [show jx_rv κ' r = none by simp [jx_rv, hrt]]
        exact K hE hl hokr hls hP1 hS1
      | some ty, hk2 =>
        refine jx_callS X0 hP hS hls0 hoka hk1 hmd hlen his hrl hdp hlc hk2 hdec (fun r h' H1 locs1 hE hP1 hS1 => ?_)
        rw [show jx_rv κ' r = some (.int r) by simp [jx_rv, hrt]]
        exact K hE hl (jx_oki hokr) hls hP1 hS1
    | none =>
      simp only [hmd] at hs
      match hsp : jx_sp (jx_ow κ) idx, hs with
      | some 0, hs =>
        obtain ⟨y, st1, rfl, hk3⟩ := jx_i_inv hs
        obtain ⟨x, st', rfl, hk4⟩ := jx_i_inv hk3
        obtain ⟨hcd, hk5⟩ := jx_cond hk4
        simp only [Bool.and_eq_true, Nat.ble_eq, Nat.blt_eq] at hcd
        obtain ⟨w1, w2, w3, w4⟩ := jx_sp_0 hsp
        refine va_mmin hx hb (by rw [hml, hls0]) hown (hin _ w1) (hin _ w2) (hin _ w3) (hin _ w4) (by omega) (by rw [jx_cats]; omega) hR3 hR4 hdec ?_
        exact K hk5 hl (jx_oki (jx_okt (jx_okt hst))) hls hP hS
      | some 1, hs =>
        obtain ⟨n, st1, rfl, hk6⟩ := jx_i_inv hs
        obtain ⟨dp, st2, rfl, hk7⟩ := jx_i_inv hk6
        obtain ⟨k1, i1, st3, rfl, hk8⟩ := jx_r_inv hk7
        obtain ⟨sp, st4, rfl, hk9⟩ := jx_i_inv hk8
        obtain ⟨k0, i0, st', rfl, hk10⟩ := jx_r_inv hk9
        obtain ⟨n0, har0, hk11⟩ := jx_ae_inv hk10
        obtain ⟨n1, har1, hk12⟩ := jx_ae_inv hk11
        obtain ⟨hcd, hk13⟩ := jx_cond hk12
        simp only [Bool.and_eq_true, Nat.ble_eq, Nat.blt_eq] at hcd
        obtain ⟨a, b, d, ⟨rfl, rfl, rfl, ha, hb2⟩, hk14⟩ := hk13
        obtain ⟨w1, w2, w3, w4⟩ := jx_sp_1 hsp
        have l0 := (jx_ar_ok har0).1
        have l1 := (jx_ar_ok har1).1
        have hk1 : i1 < jx_ct k1 := jx_okh (jx_okt (jx_okt hst))
        have hk0 : i0 < jx_ct k0 := jx_okh (jx_okt (jx_okt (jx_okt (jx_okt hst))))
        obtain ⟨q0, hq0⟩ := jx_find hk0 (by simp [jx_cel, har0])
        obtain ⟨q1, hq1⟩ := jx_find hk1 (by simp [jx_cel, har1])
        have hat0 := jx_at (G := G) (h := h) hq0
        have hat1 := jx_at (G := G) (h := h) hq1
        have hcf0 : jx_cf G k0 i0 (h k0 i0) = .inl (G.2.1 0, n0, .inl (h k0 i0)) := by simp [jx_cf, har0, (jx_ar_ok har0).2]; rfl
        have hcf1 : ∀ f, jx_cf G k1 i1 f = .inl (G.2.1 0, n1, .inl f) := fun f => by simp [jx_cf, har1, (jx_ar_ok har1).2]; rfl
        rw [hcf0] at hat0
        rw [hcf1] at hat1
        have ca : (nI a).toNatClampNeg = a := nI_clamp (by omega)
        have cb : (nI b).toNatClampNeg = b := nI_clamp (by omega)
        have cd : (nI d).toNatClampNeg = d := nI_clamp (by omega)
        refine va_copyi hx hb (by rw [hml, hls0]) hown (hin _ w1) (hin _ w2) (hin _ w3) (hin _ w4) hK hP (hD h) hS q0 q1 0 0 hat0 hat1 (jx_ty_at rfl) (jx_ty_at rfl) rfl (nI_pos (by omega)) (nI_pos (by omega)) (nI_pos (by omega)) (by rw [ca, cd]; exact ha) (by rw [cb, cd]; exact hb2) (fun i hi => rfl) (by omega) (by rw [jx_cats]; have := jx_nfw; omega) hdec (fun H1 locs1 hP1 _ hS1 => ?_)
        rw [ca, cb, cd, ← hcf1, jx_sets (hD h) hq1] at hP1
        exact K hk14 hl (jx_okt (jx_okt (jx_okt (jx_okt (jx_okt hst))))) hls hP1 hS1
  | _ => exact False.elim hs
end JT
end
section
/-! A block of instructions, up to the cut points; a method's contract by its blocks. -/
def jx_blk (κ : Nat) (cut : Nat → Bool) (V : Nat → jxL → List jxV → jxH → Prop) (E : Int32 → jxH → Prop) (TH : Nat → jxH → Prop) : Nat → Nat → jxL → List jxV → jxH → Prop
  | 0, pc, ls, st, h => V pc ls st h
  | n + 1, pc, ls, st, h => match jx_ent κ pc with
    | some (i, nx, tg) => jx_op κ (fun pc' ls' st' h' => cond (cut pc') (V pc' ls' st' h') (jx_blk κ cut V E TH n pc' ls' st' h')) E TH i nx tg ls st h
    | none => False
section JB
variable {p : Program} {l : Launch} {e : Env} {R : Room} {s : State} {m : MethodId} {args : Array Value} {below : List Frame} {meth : Method} {c : Code} {G : jxG} {A : Nat → Prop} {κ cs ss : Nat} {E : Int32 → jxH → Prop} {TH : Nat → jxH → Prop} {Qf : State → Prop}
theorem jx_blk_ok (X : jx_X p R s m args meth c G A κ cs ss) (hfin : ∀ t, MQ below (jx_Qc G κ A E) args s cs ss A t → Qf t) (hth : ∀ pc nx idx tg ls h x, jx_ent κ pc = some (.new idx, nx, tg) → jx_ex (jx_ow κ) idx = some x → TH x h → jx_V p l e R s m args below meth c G A κ cs ss Qf pc ls [] h) (cut : Nat → Bool) : ∀ (n pc : Nat) (ls : jxL) (st : List jxV) (h : jxH), jx_blk κ cut (jx_V p l e R s m args below meth c G A κ cs ss Qf) E TH n pc ls st h → jx_V p l e R s m args below meth c G A κ cs ss Qf pc ls st h
  | 0, pc, ls, st, h, hb => hb
  | n + 1, pc, ls, st, h, hb => by
    unfold jx_blk at hb
    cases hent : jx_ent κ pc with
    | none => rw [hent] at hb; exact False.elim hb
    | some q =>
      obtain ⟨i, nx, tg⟩ := q
      rw [hent] at hb
      refine jx_step X hfin hth (fun pc' ls' st' h' hg => ?_) hent hb
      cases hc : cut pc' with
      | true => simpa only [hc, cond_true] using hg
      | false =>
        have hg' : jx_blk κ cut (jx_V p l e R s m args below meth c G A κ cs ss Qf) E TH n pc' ls' st' h' := by simpa only [hc, cond_false] using hg
        exact jx_blk_ok X hfin hth cut n pc' ls' st' h' hg'
end JB
theorem jx_args_mem (G : jxG) : ∀ (as : List jxV) (n j : Nat) (v : jxV), (∀ w ∈ as, jx_w1 w) → as[j]? = some v → (n + j, jx_cv G v) ∈ lv_args n (as.map (jx_cv G))
  | [], _, _, _, _, h => by simp at h
  | a :: as, n, 0, v, _, h => by
    rw [List.getElem?_cons_zero] at h
    cases h
    simp [lv_args]
  | a :: as, n, j + 1, v, hk, h => by
    rw [List.getElem?_cons_succ] at h
    have := jx_args_mem G as (n + 1) j v (fun w hw => hk w (List.mem_cons_of_mem _ hw)) h
    rw [List.map_cons, lv_args, if_neg (by rw [jx_cv_cat G (hk a List.mem_cons_self)]; decide)]
    refine List.mem_cons_of_mem _ ?_
    rw [show n + (j + 1) = n + 1 + j by omega]
    exact this
theorem jx_sl_len (G : jxG) : ∀ as : List jxV, (∀ w ∈ as, jx_w1 w) → (lg_sl (as.map (jx_cv G))).length = as.length
  | [], _ => rfl
  | a :: as, hk => by
    have := jx_sl_len G as (fun w hw => hk w (List.mem_cons_of_mem _ hw))
    unfold lg_sl at this ⊢
    rw [List.map_cons, List.flatMap_cons, List.length_append, this, if_neg (by rw [jx_cv_cat G (hk a List.mem_cons_self)]; decide)]
    simp only [List.length_cons, List.length_nil]
    omega
set_option maxHeartbeats 1000000 in
theorem jx_MW_by {κ : Nat} {as : List jxV} {h : jxH} {E : Int32 → jxH → Prop} (ls : jxL) (hκ : κ < jx_nn) (hls : as.map some ++ List.replicate (jx_mx κ - as.length) none = ls) (hn : as.length ≤ jx_mx κ)
    (body : ∀ V : Nat → jxL → List jxV → jxH → Prop, (∀ (cut : Nat → Bool) (n pc : Nat) (ls : jxL) (st : List jxV) (h : jxH), jx_blk κ cut V E (fun _ _ => False) n pc ls st h → V pc ls st h) → V 0 ls [] h) : jx_MW κ as h E := by
  intro l G sz hok hk1
  refine Met.ofW (cc := jx_cd κ) (maxL := jx_mx κ) (ret := jx_rt κ) (jx_plain hκ) rfl ?_
  intro p e s m args below meth c s₁ B hml hv
  obtain ⟨rfl, hsz, hP, hK, hD0, hSF⟩ := hv
  subst hsz
  have hD := hD0.self (sz := s.heap.size)
  have X : jx_X p (headSpec (jx_wd κ) (jx_rm κ)).room s m ((as.map (jx_cv G)).toArray) meth c G (va_A (jx_ws G h) s.heap.size) κ 0 0 := by
    refine ⟨B.exec, B.bytes, hml, findClass_of_methodNamed B.named, fun w hw => atoms_spec (ws := jx_wd κ) B.pre w (List.mem_cons_of_mem _ hw), hK, fun h' => jx_D_any hD, hSF, fun h' sz' q hsz' hq => ?_, B.returns, B.notSynchronized, jx_nnt hκ, Nat.le_refl _, Nat.le_refl _, Nat.le_refl _, Nat.le_refl _⟩
    rcases jx_A_any (h' := h) hq with h1 | h1
    · exact Or.inl h1
    · exact Or.inr (Nat.le_trans hsz' h1)
  have hl := lv_entry (as.map (jx_cv G)) (n := jx_mx κ) (by rw [jx_sl_len G as hk1]; exact hn)
  rw [lg_entry_eq]
  have hmem : ∀ (j : Nat) (v : jxV), ls[j]? = some (some v) → as[j]? = some v := by
    intro j v hj
    rw [← hls] at hj
    by_cases hja : j < as.length
    · rw [List.getElem?_append_left (by simpa using hja), List.getElem?_map] at hj
      cases ha : as[j]? with
      | none => rw [ha] at hj; cases hj
      | some w => rw [ha] at hj; cases hj; rfl
    · rw [List.getElem?_append_right (by simpa using hja)] at hj
      have := List.mem_of_getElem? hj
      rw [List.mem_replicate] at this
      cases this.2
  refine body (jx_V p l e _ s m _ below meth c G _ κ 0 0 _) (fun cut n pc ls st h hb => jx_blk_ok X (fun t ht => ht) (fun _ _ _ _ _ _ _ _ _ h9 => False.elim h9) cut n pc ls st h hb) s.heap [] _ ⟨?_, _, hl, fun j v hj => ?_⟩ (fun v hv => by cases hv) (fun j v hj => hok v (List.mem_of_getElem? (hmem j v hj))) hP va_S.rf
  · rw [← hls]
    simp
    omega
  · have := jx_args_mem G as 0 j v hk1 (hmem j v hj)
    rw [Nat.zero_add] at this
    exact ⟨this, hk1 v (List.mem_of_getElem? (hmem j v hj))⟩
end
section
/-! Numbers: ints that are naturals; the field of sixteen symbols. (js_l, jn_and, jn_xor began as rows of the kit's BITS.to-paste.) -/
theorem js_l : ∀ n, n < 32 → ((nI n &&& 31).toBitVec.smod 32).toNat = n := by decide +kernel
theorem jn_and (a b : Nat) : nI a &&& nI b = nI (a &&& b) := by
  apply Int32.toBitVec_inj.1
  show BitVec.ofNat 32 a &&& BitVec.ofNat 32 b = BitVec.ofNat 32 (a &&& b)
  apply BitVec.eq_of_getLsbD_eq
  intro i hi
  simp [hi]
theorem jn_or (a b : Nat) : nI a ||| nI b = nI (a ||| b) := by
  apply Int32.toBitVec_inj.1
  show BitVec.ofNat 32 a ||| BitVec.ofNat 32 b = BitVec.ofNat 32 (a ||| b)
  apply BitVec.eq_of_getLsbD_eq
  intro i hi
  simp [hi]
theorem jn_xor (a b : Nat) : nI a ^^^ nI b = nI (a ^^^ b) := by
  apply Int32.toBitVec_inj.1
  show BitVec.ofNat 32 a ^^^ BitVec.ofNat 32 b = BitVec.ofNat 32 (a ^^^ b)
  apply BitVec.eq_of_getLsbD_eq
  intro i hi
  simp [hi]
theorem jn_shl {a k : Nat} (hk : k < 32) (h : a * 2 ^ k < 2 ^ 32) : nI a <<< (nI k &&& 31) = nI (a * 2 ^ k) := pk_shlN _ k (js_l k hk) h
theorem jn_shr {a k : Nat} (hk : k < 32) (h : a < 2 ^ 31) : nI a >>> (nI k &&& 31) = nI (a / 2 ^ k) := pk_shrN h _ k (js_l k hk)
theorem jn_rem {a d : Nat} (ha : a < 2 ^ 31) (h0 : 0 < d) (hd : d < 2 ^ 31) : nI a - nI a / nI d * nI d = nI (a % d) := pk_rem ha h0 hd
theorem jn_inj {a b : Nat} (ha : a < 2 ^ 31) (hb : b < 2 ^ 31) (h : nI a = nI b) : a = b := (nI_eq ha hb).mp h
/-- a call whose arguments are known under other names -/
theorem jx_cal {κ : Nat} {as as' : List jxV} {h : jxH} {E E' : Int32 → jxH → Prop} (hM : jx_MW κ as' h E') (ha : as = as') (k : ∀ r h', E' r h' → E r h') : jx_MW κ as h E := by
  subst ha
  exact jx_MW_mono hM k
-- the field
def gf_P : List Nat := [1, 2, 4, 8, 3, 6, 12, 11, 5, 10, 7, 14, 15, 13, 9]
def gf_X : List Nat := [0, 0, 1, 4, 2, 8, 5, 10, 3, 14, 9, 7, 6, 13, 11, 12]
def gf_pw (e : Nat) : Nat := gf_P.getD (e % 15) 0
def gf_ml (a b : Nat) : Nat := if a = 0 then 0 else if b = 0 then 0 else gf_pw (gf_X.getD a 0 + gf_X.getD b 0)
def gf_qt (a b : Nat) : Nat := if a = 0 then 0 else if b = 0 then 0 else gf_pw (gf_X.getD a 0 + 15 - gf_X.getD b 0)
theorem gf_pw_a : ∀ e, e < 15 → 0 < gf_P.getD e 0 ∧ gf_P.getD e 0 < 16 := by decide +kernel
theorem gf_pw_lt (e : Nat) : gf_pw e < 16 := (gf_pw_a (e % 15) (Nat.mod_lt _ (by decide))).2
theorem gf_pw_pos (e : Nat) : 0 < gf_pw e := (gf_pw_a (e % 15) (Nat.mod_lt _ (by decide))).1
theorem gf_X_lt : ∀ a, a < 16 → gf_X.getD a 0 < 15 := by decide +kernel
theorem gf_ml_lt (a b : Nat) : gf_ml a b < 16 := by
  unfold gf_ml
  split
  · decide
  · split
    · decide
    · exact gf_pw_lt _
theorem gf_qt_lt (a b : Nat) : gf_qt a b < 16 := by
  unfold gf_qt
  split
  · decide
  · split
    · decide
    · exact gf_pw_lt _
theorem gf_xor_lt {a b : Nat} (ha : a < 16) (hb : b < 16) : a ^^^ b < 16 := Nat.xor_lt_two_pow (n := 4) ha hb
theorem gf_pw_mod (e : Nat) : gf_pw (e % 15) = gf_pw e := by simp [gf_pw]
end
section
/-! Symbols: power, product, quotient, secondOfTwo. -/
theorem S_power {e : Nat} {h : jxH} (he : e < 2 ^ 31) : jx_MW 42 [jI (nI e)] h (fun r h' => r = nI (gf_pw e) ∧ h' = h) := by
  refine jx_MW_by [some (jI (nI e))] (by decide) rfl (Nat.le_of_ble_eq_true rfl) (fun V rule => ?_)
  refine rule (fun _ => false) 10 0 _ _ _ ?_
  refine And.intro (by decide) ?_
  refine Exists.intro (e % 15) (And.intro (And.intro (Nat.mod_lt _ (by decide)) (jn_rem he (by decide) (by decide))) ?_)
  exact And.intro rfl rfl
theorem S_product {a b : Nat} {h : jxH} (ha : a < 16) (hb : b < 16) : jx_MW 43 [jI (nI a), jI (nI b)] h (fun r h' => r = nI (gf_ml a b) ∧ h' = h) := by
  refine jx_MW_by [some (jI (nI a)), some (jI (nI b))] (by decide) rfl (Nat.le_of_ble_eq_true rfl) (fun V rule => ?_)
  refine rule (fun _ => false) 40 0 _ _ _ ?_
  have xa := gf_X_lt a ha
  have xb := gf_X_lt b hb
  refine pk_eq a 0 (fun h0 => ?_) (fun h0 => ?_)
  · refine And.intro ?_ rfl
    rw [gf_ml, if_pos h0]
  · refine pk_eq b 0 (fun h1 => ?_) (fun h1 => ?_)
    · refine And.intro ?_ rfl
      rw [gf_ml, if_neg h0, if_pos h1]
    · refine Exists.intro a (And.intro (And.intro ha rfl) ?_)
      refine Exists.intro b (And.intro (And.intro hb rfl) ?_)
      refine And.intro (by decide) ?_
      refine Exists.intro ((gf_X.getD a 0 + gf_X.getD b 0) % 15) (And.intro (And.intro (Nat.mod_lt _ (by decide)) ?_) ?_)
      · show nI (gf_X.getD a 0) + nI (gf_X.getD b 0) - (nI (gf_X.getD a 0) + nI (gf_X.getD b 0)) / nI 15 * nI 15 = _
        rw [nI_add]
        exact jn_rem (by omega) (by decide) (by decide)
      · refine And.intro ?_ rfl
        rw [gf_ml, if_neg h0, if_neg h1]
        rfl
theorem S_quotient {a b : Nat} {h : jxH} (ha : a < 16) (hb : b < 16) : jx_MW 44 [jI (nI a), jI (nI b)] h (fun r h' => r = nI (gf_qt a b) ∧ h' = h) := by
  refine jx_MW_by [some (jI (nI a)), some (jI (nI b))] (by decide) rfl (Nat.le_of_ble_eq_true rfl) (fun V rule => ?_)
  refine rule (fun _ => false) 40 0 _ _ _ ?_
  have xa := gf_X_lt a ha
  have xb := gf_X_lt b hb
  refine pk_eq a 0 (fun h0 => ?_) (fun h0 => ?_)
  · refine And.intro ?_ rfl
    rw [gf_qt, if_pos h0]
  · refine pk_eq b 0 (fun h1 => ?_) (fun h1 => ?_)
    · refine And.intro ?_ rfl
      rw [gf_qt, if_neg h0, if_pos h1]
    · refine Exists.intro a (And.intro (And.intro ha rfl) ?_)
      refine Exists.intro b (And.intro (And.intro hb rfl) ?_)
      refine And.intro (by decide) ?_
      refine Exists.intro ((gf_X.getD a 0 + 15 - gf_X.getD b 0) % 15) (And.intro (And.intro (Nat.mod_lt _ (by decide)) ?_) ?_)
      · show nI (gf_X.getD a 0) + nI 15 - nI (gf_X.getD b 0) - (nI (gf_X.getD a 0) + nI 15 - nI (gf_X.getD b 0)) / nI 15 * nI 15 = _
        rw [nI_add, pk_sub (by omega)]
        exact jn_rem (by omega) (by decide) (by decide)
      · refine And.intro ?_ rfl
        rw [gf_qt, if_neg h0, if_neg h1]
        rfl
/-- the v of u + v = p, a u + b v = w -/
def gf_s2 (p w a b : Nat) : Nat := gf_qt (w ^^^ gf_ml a p) (a ^^^ b)
theorem S_secondOfTwo {p w a b : Nat} {h : jxH} (hp : p < 16) (hw : w < 16) (ha : a < 16) (hb : b < 16) : jx_MW 75 [jI (nI p), jI (nI w), jI (nI a), jI (nI b)] h (fun r h' => r = nI (gf_s2 p w a b) ∧ h' = h) := by
  refine jx_MW_by [some (jI (nI p)), some (jI (nI w)), some (jI (nI a)), some (jI (nI b))] (by decide) rfl (Nat.le_of_ble_eq_true rfl) (fun V rule => ?_)
  refine rule (fun _ => false) 20 0 _ _ _ ?_
  refine jx_cal (S_product ha hp) rfl (fun r h' hq => ?_)
  obtain ⟨rfl, rfl⟩ := hq
  refine jx_cal (S_quotient (gf_xor_lt hw (gf_ml_lt a p)) (gf_xor_lt ha hb)) (by rw [jn_xor, jn_xor]) (fun r h' hq => ?_)
  exact hq
end
section
/-! Loops; stores; Column. -/
theorem jl_up {P : Nat → Prop} (n : Nat) (hn : P n) (hs : ∀ i, i < n → P (i + 1) → P i) : ∀ i, i ≤ n → P i := by
  have key : ∀ d i, i + d = n → P i := by
    intro d
    induction d with
    | zero => intro i hi; rw [show i = n by omega]; exact hn
    | succ d ih => intro i hi; exact hs i (by omega) (ih (i + 1) (by omega))
  intro i hi
  exact key (n - i) i (by omega)
/-- a leaf whose locals, stack and heap are known under other names -/
theorem jv_to {V : Nat → jxL → List jxV → jxH → Prop} {pc : Nat} {ls ls' : jxL} {st st' : List jxV} {h h' : jxH} (hv : V pc ls' st' h') (e1 : ls = ls') (e2 : st = st') (e3 : h = h') : V pc ls st h := by
  subst e1 e2 e3
  exact hv
theorem jx_st_id (h : jxH) (k i : Nat) : jx_st h k i (h k i) = h := by
  funext k' i'
  unfold jx_st
  by_cases hk : k' = k
  · by_cases hi : i' = i
    · rw [if_pos hk, if_pos hi, hk, hi]
    · rw [if_pos hk, if_neg hi]
  · rw [if_neg hk]
theorem jx_st_st (h : jxH) (k i : Nat) (f g : Nat → Int32) : jx_st (jx_st h k i f) k i g = jx_st h k i g := by
  funext k' i'
  unfold jx_st
  by_cases hk : k' = k
  · by_cases hi : i' = i
    · rw [if_pos hk, if_pos hi, if_pos hk, if_pos hi]
    · rw [if_pos hk, if_neg hi, if_pos hk, if_neg hi, if_pos hk, if_neg hi]
  · rw [if_neg hk, if_neg hk, if_neg hk]
theorem upd_same (f : Nat → Int32) (k : Nat) (x : Int32) : upd f k x k = x := by simp [upd]
theorem upd_ne (f : Nat → Int32) {k j : Nat} (x : Int32) (h : j ≠ k) : upd f k x j = f j := by simp [upd, h]
/-- an array that holds naturals below m in its first n places -/
def AR (f : Nat → Int32) (n m : Nat) (s : Nat → Nat) : Prop := ∀ k, k < n → f k = nI (s k) ∧ s k < m
theorem AR.at {f : Nat → Int32} {n m : Nat} {s : Nat → Nat} (h : AR f n m s) {k : Nat} (hk : k < n) : f k = nI (s k) := (h k hk).1
theorem AR.lt {f : Nat → Int32} {n m : Nat} {s : Nat → Nat} (h : AR f n m s) {k : Nat} (hk : k < n) : s k < m := (h k hk).2
def nup (s : Nat → Nat) (k v : Nat) : Nat → Nat := fun j => if j = k then v else s j
theorem nup_same (s : Nat → Nat) (k v : Nat) : nup s k v k = v := by simp [nup]
theorem nup_ne (s : Nat → Nat) {k j : Nat} (v : Nat) (h : j ≠ k) : nup s k v j = s j := by simp [nup, h]
theorem AR.put {f : Nat → Int32} {n m : Nat} {s : Nat → Nat} (h : AR f n m s) {k v : Nat} (hv : v < m) : AR (upd f k (nI v)) n m (nup s k v) := by
  intro j hj
  by_cases hjk : j = k
  · subst hjk
    rw [upd_same, nup_same]
    exact ⟨rfl, hv⟩
  · rw [upd_ne _ _ hjk, nup_ne _ _ hjk]
    exact h j hj
theorem AR.congr {f : Nat → Int32} {n m : Nat} {s s' : Nat → Nat} (h : AR f n m s) (he : ∀ k, k < n → s' k = s k) : AR f n m s' := by
  intro k hk
  rw [he k hk]
  exact h k hk
def xs (s : Nat → Nat) : Nat → Nat
  | 0 => 0
  | n + 1 => xs s n ^^^ s n
theorem xs_lt {s : Nat → Nat} : ∀ {n : Nat}, (∀ k, k < n → s k < 16) → xs s n < 16
  | 0, _ => Nat.succ_pos 15
  | n + 1, h => gf_xor_lt (xs_lt (fun k hk => h k (Nat.lt_succ_of_lt hk))) (h n (Nat.lt_succ_self n))
theorem xs_congr {s t : Nat → Nat} : ∀ {n : Nat}, (∀ k, k < n → s k = t k) → xs s n = xs t n
  | 0, _ => rfl
  | n + 1, h => by
    show xs s n ^^^ s n = xs t n ^^^ t n
    rw [xs_congr (fun k hk => h k (Nat.lt_succ_of_lt hk)), h n (Nat.lt_succ_self n)]
/-- the weighted symbols -/
def wt (s : Nat → Nat) : Nat → Nat := fun k => gf_ml (gf_pw k) (s k)
theorem S_Col_get {c k m : Nat} {s : Nat → Nat} {h : jxH} (hs : AR (h 10 c) 6 m s) (hk : k < 6) : jx_MW 11 [jR 9 c, jI (nI k)] h (fun r h' => r = nI (s k) ∧ h' = h) := by
  refine jx_MW_by [some (jR 9 c), some (jI (nI k))] (by decide) rfl (Nat.le_of_ble_eq_true rfl) (fun V rule => ?_)
  refine rule (fun _ => false) 10 0 _ _ _ ?_
  refine Exists.intro k (And.intro (And.intro hk rfl) ?_)
  exact And.intro (hs.at hk) rfl
theorem S_Col_set {c k : Nat} {v : Int32} {h : jxH} (hk : k < 6) : jx_MW 13 [jR 9 c, jI (nI k), jI v] h (fun _ h' => h' = jx_st h 10 c (upd (h 10 c) k v)) := by
  refine jx_MW_by [some (jR 9 c), some (jI (nI k)), some (jI v)] (by decide) rfl (Nat.le_of_ble_eq_true rfl) (fun V rule => ?_)
  refine rule (fun _ => false) 10 0 _ _ _ ?_
  refine Exists.intro k (And.intro (And.intro hk rfl) ?_)
  exact rfl
theorem S_Col_plainSum {c n : Nat} {s : Nat → Nat} {h : jxH} (hs : AR (h 10 c) 6 16 s) (hn : n ≤ 6) : jx_MW 12 [jR 9 c, jI (nI n)] h (fun r h' => r = nI (xs s n) ∧ h' = h) := by
  refine jx_MW_by [some (jR 9 c), some (jI (nI n)), none, none] (by decide) rfl (Nat.le_of_ble_eq_true rfl) (fun V rule => ?_)
  have loop := jl_up (P := fun i => V 4 [some (jR 9 c), some (jI (nI n)), some (jI (nI (xs s i))), some (jI (nI i))] [] h) n
    (by
      refine rule (fun _ => false) 10 4 _ _ _ ?_
      refine pk_le n n (fun _ => ?_) (fun q => absurd q (Nat.lt_irrefl _))
      exact And.intro rfl rfl)
    (fun i hi ih => by
      refine rule (Nat.beq 4) 20 4 _ _ _ ?_
      refine pk_le n i (fun q => absurd q (by omega)) (fun _ => ?_)
      refine Exists.intro i (And.intro (And.intro (by omega) rfl) ?_)
      exact jv_to ih (by rw [hs.at (show i < 6 by omega), jn_xor, nI_add]; rfl) rfl rfl)
  refine rule (Nat.beq 4) 10 0 _ _ _ ?_
  exact loop 0 (Nat.zero_le _)
theorem S_Col_weightedSum {c n : Nat} {s : Nat → Nat} {h : jxH} (hs : AR (h 10 c) 6 16 s) (hn : n ≤ 6) : jx_MW 59 [jR 9 c, jI (nI n)] h (fun r h' => r = nI (xs (wt s) n) ∧ h' = h) := by
  refine jx_MW_by [some (jR 9 c), some (jI (nI n)), none, none] (by decide) rfl (Nat.le_of_ble_eq_true rfl) (fun V rule => ?_)
  have loop := jl_up (P := fun i => V 4 [some (jR 9 c), some (jI (nI n)), some (jI (nI (xs (wt s) i))), some (jI (nI i))] [] h) n
    (by
      refine rule (fun _ => false) 10 4 _ _ _ ?_
      refine pk_le n n (fun _ => ?_) (fun q => absurd q (Nat.lt_irrefl _))
      exact And.intro rfl rfl)
    (fun i hi ih => by
      refine rule (Nat.beq 4) 20 4 _ _ _ ?_
      refine pk_le n i (fun q => absurd q (by omega)) (fun _ => ?_)
      refine jx_cal (S_power (e := i) (by omega)) rfl (fun r h' hq => ?_)
      obtain ⟨rfl, rfl⟩ := hq
      refine Exists.intro i (And.intro (And.intro (by omega) rfl) ?_)
      refine jx_cal (S_product (gf_pw_lt i) (hs.lt (show i < 6 by omega))) (by rw [hs.at (show i < 6 by omega)]) (fun r h' hq => ?_)
      obtain ⟨rfl, rfl⟩ := hq
      exact jv_to ih (by rw [jn_xor, nI_add]; rfl) rfl rfl)
  refine rule (Nat.beq 4) 10 0 _ _ _ ?_
  exact loop 0 (Nat.zero_le _)
theorem S_Col_addSpares {c n : Nat} {s : Nat → Nat} {h : jxH} (hs : AR (h 10 c) 6 16 s) (hn : n ≤ 4) : jx_MW 85 [jR 9 c, jI (nI n)] h (fun _ h' => ∃ f, h' = jx_st h 10 c f ∧ AR f 6 16 (nup (nup s n (xs s n)) (n + 1) (xs (wt s) n))) := by
  refine jx_MW_by [some (jR 9 c), some (jI (nI n))] (by decide) rfl (Nat.le_of_ble_eq_true rfl) (fun V rule => ?_)
  refine rule (fun _ => false) 30 0 _ _ _ ?_
  refine jx_cal (S_Col_plainSum hs (by omega)) rfl (fun r h' hq => ?_)
  obtain ⟨rfl, rfl⟩ := hq
  refine Exists.intro n (And.intro (And.intro (by omega) rfl) ?_)
  have hx : xs s n < 16 := xs_lt (fun k hk => hs.lt (by omega))
  have hs1 : AR (jx_st h' 10 c (upd (h' 10 c) n (nI (xs s n))) 10 c) 6 16 (nup s n (xs s n)) := by
    rw [jx_st_same]
    exact hs.put hx
  refine jx_cal (S_Col_weightedSum hs1 (by omega)) rfl (fun r h2 hq => ?_)
  obtain ⟨rfl, rfl⟩ := hq
  refine Exists.intro (n + 1) (And.intro (And.intro (by omega) (nI_add n 1)) ?_)
  have e : xs (wt (nup s n (xs s n))) n = xs (wt s) n := xs_congr (fun k hk => by unfold wt; rw [nup_ne _ _ (by omega)])
  refine Exists.intro (upd (upd (h' 10 c) n (nI (xs s n))) (n + 1) (nI (xs (wt s) n))) (And.intro ?_ ?_)
  · rw [e, jx_st_same, jx_st_st]
  · exact (hs.put hx).put (xs_lt (fun k hk => gf_ml_lt _ _))
theorem S_Col_restoreByPlain {c n l : Nat} {s : Nat → Nat} {h : jxH} (hs : AR (h 10 c) 6 16 s) (hn : n ≤ 4) (hl : l < 6) : jx_MW 58 [jR 9 c, jI (nI n), jI (nI l)] h (fun _ h' => ∃ f, h' = jx_st h 10 c f ∧ AR f 6 16 (nup s l (s n ^^^ xs s n))) := by
  refine jx_MW_by [some (jR 9 c), some (jI (nI n)), some (jI (nI l))] (by decide) rfl (Nat.le_of_ble_eq_true rfl) (fun V rule => ?_)
  refine rule (fun _ => false) 30 0 _ _ _ ?_
  refine Exists.intro n (And.intro (And.intro (by omega) rfl) ?_)
  refine jx_cal (S_Col_plainSum hs (by omega)) rfl (fun r h' hq => ?_)
  obtain ⟨rfl, rfl⟩ := hq
  refine Exists.intro l (And.intro (And.intro hl rfl) ?_)
  have hx : xs s n < 16 := xs_lt (fun k hk => hs.lt (by omega))
  refine Exists.intro (upd (h' 10 c) l (nI (s n ^^^ xs s n))) (And.intro ?_ (hs.put (gf_xor_lt (hs.lt (by omega)) hx)))
  rw [hs.at (show n < 6 by omega), jn_xor]
theorem S_Col_restoreByWeighted {c n l : Nat} {s : Nat → Nat} {h : jxH} (hs : AR (h 10 c) 6 16 s) (hn : n ≤ 4) (hl : l < 6) : jx_MW 86 [jR 9 c, jI (nI n), jI (nI l)] h (fun _ h' => ∃ f, h' = jx_st h 10 c f ∧ AR f 6 16 (nup s l (gf_qt (s (n + 1) ^^^ xs (wt s) n) (gf_pw l)))) := by
  refine jx_MW_by [some (jR 9 c), some (jI (nI n)), some (jI (nI l)), none] (by decide) rfl (Nat.le_of_ble_eq_true rfl) (fun V rule => ?_)
  refine rule (fun _ => false) 40 0 _ _ _ ?_
  refine Exists.intro (n + 1) (And.intro (And.intro (by omega) (nI_add n 1)) ?_)
  refine jx_cal (S_Col_weightedSum hs (by omega)) rfl (fun r h' hq => ?_)
  obtain ⟨rfl, rfl⟩ := hq
  refine jx_cal (S_power (e := l) (by omega)) rfl (fun r h2 hq => ?_)
  obtain ⟨rfl, rfl⟩ := hq
  have hx : xs (wt s) n < 16 := xs_lt (fun k hk => gf_ml_lt _ _)
  refine jx_cal (S_quotient (gf_xor_lt (hs.lt (show n + 1 < 6 by omega)) hx) (gf_pw_lt l)) (by rw [hs.at (show n + 1 < 6 by omega), jn_xor]) (fun r h3 hq => ?_)
  obtain ⟨rfl, rfl⟩ := hq
  refine Exists.intro l (And.intro (And.intro hl rfl) ?_)
  exact Exists.intro _ (And.intro rfl (hs.put (gf_qt_lt _ _)))
theorem S_Col_restoreTwo {c n a b : Nat} {s : Nat → Nat} {h : jxH} (hs : AR (h 10 c) 6 16 s) (hn : n ≤ 4) (ha : a < 6) (hb : b < 6) : jx_MW 87 [jR 9 c, jI (nI n), jI (nI a), jI (nI b)] h (fun _ h' => ∃ f, h' = jx_st h 10 c f ∧ AR f 6 16 (nup (nup s b (gf_s2 (s n ^^^ xs s n) (s (n + 1) ^^^ xs (wt s) n) (gf_pw a) (gf_pw b))) a ((s n ^^^ xs s n) ^^^ gf_s2 (s n ^^^ xs s n) (s (n + 1) ^^^ xs (wt s) n) (gf_pw a) (gf_pw b)))) := by
  refine jx_MW_by [some (jR 9 c), some (jI (nI n)), some (jI (nI a)), some (jI (nI b)), none, none] (by decide) rfl (Nat.le_of_ble_eq_true rfl) (fun V rule => ?_)
  refine rule (fun _ => false) 60 0 _ _ _ ?_
  refine Exists.intro n (And.intro (And.intro (by omega) rfl) ?_)
  refine jx_cal (S_Col_plainSum hs (by omega)) rfl (fun r h' hq => ?_)
  obtain ⟨rfl, rfl⟩ := hq
  refine Exists.intro (n + 1) (And.intro (And.intro (by omega) (nI_add n 1)) ?_)
  refine jx_cal (S_Col_weightedSum hs (by omega)) rfl (fun r h2 hq => ?_)
  obtain ⟨rfl, rfl⟩ := hq
  refine jx_cal (S_power (e := a) (by omega)) rfl (fun r h2 hq => ?_)
  obtain ⟨rfl, rfl⟩ := hq
  refine jx_cal (S_power (e := b) (by omega)) rfl (fun r h2 hq => ?_)
  obtain ⟨rfl, rfl⟩ := hq
  have hx : xs s n < 16 := xs_lt (fun k hk => hs.lt (by omega))
  have hw : xs (wt s) n < 16 := xs_lt (fun k hk => gf_ml_lt _ _)
  have hp : s n ^^^ xs s n < 16 := gf_xor_lt (hs.lt (by omega)) hx
  have hq9 : s (n + 1) ^^^ xs (wt s) n < 16 := gf_xor_lt (hs.lt (by omega)) hw
  refine jx_cal (S_secondOfTwo hp hq9 (gf_pw_lt a) (gf_pw_lt b)) (by rw [hs.at (show n < 6 by omega), hs.at (show n + 1 < 6 by omega), jn_xor, jn_xor]) (fun r h2 hq => ?_)
  obtain ⟨rfl, rfl⟩ := hq
  refine Exists.intro b (And.intro (And.intro hb rfl) ?_)
  refine Exists.intro b (And.intro (And.intro hb rfl) ?_)
  refine Exists.intro a (And.intro (And.intro ha rfl) ?_)
  have hv : gf_s2 (s n ^^^ xs s n) (s (n + 1) ^^^ xs (wt s) n) (gf_pw a) (gf_pw b) < 16 := gf_qt_lt _ _
  refine Exists.intro (upd (upd (h2 10 c) b (nI (gf_s2 (s n ^^^ xs s n) (s (n + 1) ^^^ xs (wt s) n) (gf_pw a) (gf_pw b)))) a (nI ((s n ^^^ xs s n) ^^^ gf_s2 (s n ^^^ xs s n) (s (n + 1) ^^^ xs (wt s) n) (gf_pw a) (gf_pw b)))) (And.intro ?_ ((hs.put hv).put (gf_xor_lt hp hv)))
  rw [jx_st_same, jx_st_st, upd_same, hs.at (show n < 6 by omega), jn_xor, jn_xor]
end
section
/-! Sheet: dots as functions of x and y. -/
def LN (f : Nat → Int32) (D : Nat → Nat → Bool) : Prop := ∀ y, y < 18 → ∃ n, n < 2 ^ 18 ∧ f y = nI n ∧ ∀ x, x < 18 → n.testBit x = D x y
theorem LN.congr {f : Nat → Int32} {D D' : Nat → Nat → Bool} (h : LN f D) (he : ∀ x y, x < 18 → y < 18 → D x y = D' x y) : LN f D' := by
  intro y hy
  obtain ⟨n, h1, h2, h3⟩ := h y hy
  exact ⟨n, h1, h2, fun x hx => (h3 x hx).trans (he x y hx hy)⟩
theorem LN.st {f : Nat → Int32} {D : Nat → Nat → Bool} (h : jxH) (p : Nat) (hf : LN f D) : LN (jx_st h 4 p f 4 p) D := by
  rw [jx_st_same]
  exact hf
theorem if_iff {p q : Prop} [Decidable p] [Decidable q] {α : Type} {a b : α} (h : p ↔ q) : (if p then a else b) = if q then a else b := by
  by_cases hp : p
  · rw [if_pos hp, if_pos (h.mp hp)]
  · rw [if_neg hp, if_neg (fun z => hp (h.mpr z))]
def fr (x y : Nat) : Bool := decide (x = 0) || decide (y = 0) || (decide (x = 17) && decide (y % 2 = 0)) || (decide (y = 17) && decide (x % 2 = 0))
theorem S_Sheet_blockX {b : Nat} {h : jxH} (hb : b < 1000) : jx_MW 4 [jI (nI b)] h (fun r h' => r = nI (1 + 2 * (b % 8)) ∧ h' = h) := by
  refine jx_MW_by [some (jI (nI b))] (by decide) rfl (Nat.le_of_ble_eq_true rfl) (fun V rule => ?_)
  refine rule (fun _ => false) 10 0 _ _ _ ?_
  refine And.intro (by decide) ?_
  refine And.intro ?_ rfl
  rw [jn_rem (by omega) (by decide) (by decide), pk_mul, nI_add]
theorem S_Sheet_blockY {b : Nat} {h : jxH} (hb : b < 1000) : jx_MW 5 [jI (nI b)] h (fun r h' => r = nI (1 + 2 * (b / 8)) ∧ h' = h) := by
  refine jx_MW_by [some (jI (nI b))] (by decide) rfl (Nat.le_of_ble_eq_true rfl) (fun V rule => ?_)
  refine rule (fun _ => false) 10 0 _ _ _ ?_
  refine And.intro (by decide) ?_
  refine And.intro ?_ rfl
  rw [pk_div (by omega) (by decide) (by decide), pk_mul, nI_add]
theorem tb_div (n x : Nat) : n.testBit x = decide (n / 2 ^ x % 2 = 1) := Nat.testBit_eq_decide_div_mod_eq
theorem S_Sheet_isBlack {p x y : Nat} {D : Nat → Nat → Bool} {h : jxH} (hL : LN (h 4 p) D) (hx : x < 18) (hy : y < 18) : jx_MW 7 [jR 3 p, jI (nI x), jI (nI y)] h (fun r h' => r = nI (D x y).toNat ∧ h' = h) := by
  refine jx_MW_by [some (jR 3 p), some (jI (nI x)), some (jI (nI y))] (by decide) rfl (Nat.le_of_ble_eq_true rfl) (fun V rule => ?_)
  refine rule (fun _ => false) 20 0 _ _ _ ?_
  obtain ⟨n, hn, e, hb⟩ := hL y hy
  refine Exists.intro y (And.intro (And.intro hy rfl) ?_)
  have hb := hb x hx
  rw [tb_div] at hb
  refine pk_eq (n / 2 ^ x % 2) 1 (fun q => ?_) (fun q => ?_) (by rw [e, jn_shr (by omega) (by omega), jn_and, Nat.and_one_is_mod]) rfl
  · refine And.intro (Or.inr rfl) (And.intro ?_ rfl)
    rw [← hb]
    simp [q]
  · refine And.intro (Or.inl rfl) (And.intro ?_ rfl)
    rw [← hb]
    simp [q]
theorem S_Sheet_invert {p x y : Nat} {D : Nat → Nat → Bool} {h : jxH} (hL : LN (h 4 p) D) (hx : x < 18) (hy : y < 18) : jx_MW 6 [jR 3 p, jI (nI x), jI (nI y)] h (fun _ h' => ∃ f, h' = jx_st h 4 p f ∧ LN f (fun a b => if a = x ∧ b = y then !D a b else D a b)) := by
  refine jx_MW_by [some (jR 3 p), some (jI (nI x)), some (jI (nI y))] (by decide) rfl (Nat.le_of_ble_eq_true rfl) (fun V rule => ?_)
  refine rule (fun _ => false) 20 0 _ _ _ ?_
  obtain ⟨n, hn, e, hb⟩ := hL y hy
  refine Exists.intro y (And.intro (And.intro hy rfl) ?_)
  refine Exists.intro y (And.intro (And.intro hy rfl) ?_)
  have hpw : 2 ^ x < 2 ^ 18 := Nat.pow_lt_pow_right (by decide) hx
  refine Exists.intro (upd (h 4 p) y (nI (n ^^^ 2 ^ x))) (And.intro ?_ ?_)
  · rw [e, jn_shl (by omega) (by rw [Nat.one_mul]; omega), jn_xor, Nat.one_mul]
  · intro b hb9
    by_cases hby : b = y
    · subst hby
      refine ⟨n ^^^ 2 ^ x, Nat.xor_lt_two_pow hn hpw, upd_same _ _ _, fun a ha => ?_⟩
      rw [Nat.testBit_xor, hb a ha, Nat.testBit_two_pow]
      by_cases hax : a = x
      · subst hax
        simp
      · simp [hax, Ne.symm hax]
    · obtain ⟨n', h1, h2, h3⟩ := hL b hb9
      refine ⟨n', h1, by rw [upd_ne _ _ hby]; exact h2, fun a ha => ?_⟩
      rw [h3 a ha]
      simp [hby]
theorem S_Sheet_whiten {p : Nat} {h : jxH} : jx_MW 9 [jR 3 p] h (fun _ h' => ∃ f, h' = jx_st h 4 p f ∧ LN f (fun _ _ => false)) := by
  refine jx_MW_by [some (jR 3 p), none] (by decide) rfl (Nat.le_of_ble_eq_true rfl) (fun V rule => ?_)
  have loop := jl_up (P := fun i => ∀ f : Nat → Int32, (∀ y, y < i → f y = nI 0) → V 2 [some (jR 3 p), some (jI (nI i))] [] (jx_st h 4 p f)) 18
    (by
      intro f hf
      refine rule (fun _ => false) 10 2 _ _ _ ?_
      refine pk_le 18 18 (fun _ => ?_) (fun q => absurd q (Nat.lt_irrefl _))
      exact Exists.intro f (And.intro rfl (fun y hy => ⟨0, by decide, hf y hy, fun x _ => Nat.zero_testBit x⟩)))
    (fun i hi ih => by
      intro f hf
      refine rule (Nat.beq 2) 20 2 _ _ _ ?_
      refine pk_le 18 i (fun q => absurd q (by omega)) (fun _ => ?_)
      refine Exists.intro i (And.intro (And.intro hi rfl) ?_)
      refine jv_to (V := V) (ih (upd f i (nI 0)) (fun y hy => ?_)) (by rw [nI_add]) rfl (by rw [jx_st_same, jx_st_st])
      by_cases hyi : y = i
      · subst hyi; exact upd_same _ _ _
      · rw [upd_ne _ _ hyi]; exact hf y (by omega))
  refine rule (Nat.beq 2) 10 0 _ _ _ ?_
  exact jv_to (V := V) (loop 0 (Nat.zero_le _) (h 4 p) (fun y hy => absurd hy (Nat.not_lt_zero _))) rfl rfl (jx_st_id h 4 p).symm
theorem S_Sheet_isFrameBlack {x y : Nat} {h : jxH} (hx : x < 18) (hy : y < 18) : jx_MW 8 [jI (nI x), jI (nI y)] h (fun r h' => r = nI (fr x y).toNat ∧ h' = h) := by
  refine jx_MW_by [some (jI (nI x)), some (jI (nI y))] (by decide) rfl (Nat.le_of_ble_eq_true rfl) (fun V rule => ?_)
  refine rule (fun _ => false) 40 0 _ _ _ ?_
  refine pk_eq x 0 (fun q1 => ?_) (fun q1 => ?_)
  · refine And.intro (Or.inr rfl) (And.intro ?_ rfl)
    simp [fr, q1]
  refine pk_eq y 0 (fun q2 => ?_) (fun q2 => ?_)
  · refine And.intro (Or.inr rfl) (And.intro ?_ rfl)
    simp [fr, q2]
  refine pk_eq x 17 (fun q3 => ?_) (fun q3 => ?_)
  · refine And.intro (by decide) ?_
    refine pk_eq (y % 2) 0 (fun q4 => ?_) (fun q4 => ?_) (jn_rem (by omega) (by decide) (by decide)) rfl
    · refine And.intro (Or.inr rfl) (And.intro ?_ rfl)
      simp [fr, q3, q4]
    refine pk_eq y 17 (fun q5 => ?_) (fun q5 => ?_)
    · refine And.intro (by decide) ?_
      refine pk_eq (x % 2) 0 (fun q6 => ?_) (fun q6 => ?_) (jn_rem (by omega) (by decide) (by decide)) rfl
      · refine And.intro (Or.inr rfl) (And.intro ?_ rfl)
        simp [fr, q5, q6]
      · refine And.intro (Or.inl rfl) (And.intro ?_ rfl)
        simp [fr, q1, q2, q3, q4, q5, q6]
    · refine And.intro (Or.inl rfl) (And.intro ?_ rfl)
      simp [fr, q1, q2, q3, q4, q5]
  · refine pk_eq y 17 (fun q5 => ?_) (fun q5 => ?_)
    · refine And.intro (by decide) ?_
      refine pk_eq (x % 2) 0 (fun q6 => ?_) (fun q6 => ?_) (jn_rem (by omega) (by decide) (by decide)) rfl
      · refine And.intro (Or.inr rfl) (And.intro ?_ rfl)
        simp [fr, q5, q6]
      · refine And.intro (Or.inl rfl) (And.intro ?_ rfl)
        simp [fr, q1, q2, q3, q5, q6]
    · refine And.intro (Or.inl rfl) (And.intro ?_ rfl)
      simp [fr, q1, q2, q3, q5]
-- counting, and painting
def sm (f : Nat → Nat) (a : Nat) : Nat → Nat
  | 0 => 0
  | n + 1 => sm f a n + f (a + n)
theorem sm_le {f : Nat → Nat} (hf : ∀ k, f k ≤ 18) (a : Nat) : ∀ n, sm f a n ≤ 18 * n
  | 0 => Nat.le_refl _
  | n + 1 => by
    have h1 := sm_le hf a n
    have h2 := hf (a + n)
    show sm f a n + f (a + n) ≤ _
    omega
theorem sm_le1 {f : Nat → Nat} (hf : ∀ k, f k ≤ 1) (a : Nat) : ∀ n, sm f a n ≤ n
  | 0 => Nat.le_refl _
  | n + 1 => by
    have h1 := sm_le1 hf a n
    have h2 := hf (a + n)
    show sm f a n + f (a + n) ≤ _
    omega
theorem sm_congr {f g : Nat → Nat} {a : Nat} : ∀ {n : Nat}, (∀ k, a ≤ k → k < a + n → f k = g k) → sm f a n = sm g a n
  | 0, _ => rfl
  | n + 1, h => by
    show sm f a n + f (a + n) = sm g a n + g (a + n)
    rw [sm_congr (fun k h1 h2 => h k h1 (by omega)), h (a + n) (by omega) (by omega)]
/-- one where the dot is otherwise -/
def df (D : Nat → Nat → Bool) (c : Bool) (y x : Nat) : Nat := if D x y = c then 0 else 1
def pD (D : Nat → Nat → Bool) (l t r b : Nat) (c : Bool) : Nat → Nat → Bool := fun x y => if l ≤ x ∧ x < r ∧ t ≤ y ∧ y < b then c else D x y
theorem toNat_inj {a b : Bool} : a.toNat = b.toNat ↔ a = b := by cases a <;> cases b <;> decide
theorem toNat_le (a : Bool) : a.toNat ≤ 1 := by cases a <;> decide
theorem S_Sheet_paint {p l t r b : Nat} {c : Bool} {D : Nat → Nat → Bool} {h : jxH} (hL : LN (h 4 p) D) (hr : r ≤ 18) (hb : b ≤ 18) (hl : l ≤ r) (ht : t ≤ b) : jx_MW 51 [jR 3 p, jI (nI l), jI (nI t), jI (nI r), jI (nI b), jI (nI c.toNat)] h (fun q h' => q = nI (sm (fun y => sm (df D c y) l (r - l)) t (b - t)) ∧ ∃ f, h' = jx_st h 4 p f ∧ LN f (pD D l t r b c)) := by
  refine jx_MW_by [some (jR 3 p), some (jI (nI l)), some (jI (nI t)), some (jI (nI r)), some (jI (nI b)), some (jI (nI c.toNat)), none, none, none] (by decide) rfl (Nat.le_of_ble_eq_true rfl) (fun V rule => ?_)
  have d1 : ∀ y x, df D c y x ≤ 1 := fun y x => by unfold df; split <;> omega
  have d18 : ∀ y, sm (df D c y) l (r - l) ≤ 18 := fun y => Nat.le_trans (sm_le1 (d1 y) l (r - l)) (by omega)
  have hc1 := toNat_le c
  have outer := jl_up (P := fun j => t ≤ j → ∀ (o : Option jxV) (f : Nat → Int32), LN f (pD D l t r j c) → V 6 [some (jR 3 p), some (jI (nI l)), some (jI (nI t)), some (jI (nI r)), some (jI (nI b)), some (jI (nI c.toNat)), some (jI (nI (sm (fun y => sm (df D c y) l (r - l)) t (j - t)))), some (jI (nI j)), o] [] (jx_st h 4 p f)) b
    (by
      intro _ o f hf
      refine rule (fun _ => false) 10 6 _ _ _ ?_
      refine pk_le b b (fun _ => ?_) (fun q => absurd q (Nat.lt_irrefl _))
      exact And.intro rfl (Exists.intro f (And.intro rfl hf)))
    (fun j hj ih => by
      intro htj o f hf
      have inner := jl_up (P := fun i => l ≤ i → ∀ (f : Nat → Int32), LN f (fun x y => if y = j ∧ l ≤ x ∧ x < i then c else pD D l t r j c x y) → V 16 [some (jR 3 p), some (jI (nI l)), some (jI (nI t)), some (jI (nI r)), some (jI (nI b)), some (jI (nI c.toNat)), some (jI (nI (sm (fun y => sm (df D c y) l (r - l)) t (j - t) + sm (df D c j) l (i - l)))), some (jI (nI j)), some (jI (nI i))] [] (jx_st h 4 p f)) r
        (by
          intro _ f hf
          refine rule (Nat.beq 6) 20 16 _ _ _ ?_
          refine pk_le r r (fun _ => ?_) (fun q => absurd q (Nat.lt_irrefl _))
          refine jv_to (V := V) (ih (by omega) (some (jI (nI r))) f (hf.congr (fun x y hx hy => ?_))) ?_ rfl rfl
          · unfold pD
            by_cases hyj : y = j
            · subst hyj
              by_cases h1 : l ≤ x ∧ x < r
              · simp [h1, htj]
              · simp [h1]
                intro a1 a2
                exact absurd ⟨a1, a2⟩ h1
            · have e1 : (y < j + 1) = (y < j) := propext ⟨fun q => by omega, fun q => by omega⟩
              simp [hyj, e1]
          · rw [nI_add, show j + 1 - t = (j - t) + 1 by omega]
            show _ = [some (jR 3 p), some (jI (nI l)), some (jI (nI t)), some (jI (nI r)), some (jI (nI b)), some (jI (nI c.toNat)), some (jI (nI (sm (fun y => sm (df D c y) l (r - l)) t (j - t) + sm (df D c (t + (j - t))) l (r - l)))), some (jI (nI (j + 1))), some (jI (nI r))]
            rw [show t + (j - t) = j by omega])
        (fun i hi ih2 => by
          intro hli f hf
          refine rule (Nat.beq 16) 30 16 _ _ _ ?_
          refine pk_le r i (fun q => absurd q (by omega)) (fun _ => ?_)
          have hf' : LN (jx_st h 4 p f 4 p) (fun x y => if y = j ∧ l ≤ x ∧ x < i then c else pD D l t r j c x y) := by rw [jx_st_same]; exact hf
          refine jx_cal (S_Sheet_isBlack hf' (by omega) (by omega)) rfl (fun q h' hq => ?_)
          obtain ⟨rfl, rfl⟩ := hq
          have e0 : (if j = j ∧ l ≤ i ∧ i < i then c else pD D l t r j c i j) = D i j := by simp [pD]
          rw [e0]
          have ei : i + 1 - l = (i - l) + 1 := by omega
          have el : l + (i - l) = i := by omega
          refine pk_eq (D i j).toNat c.toNat (fun q => ?_) (fun q => ?_) rfl rfl (by have := toNat_le (D i j); omega) (by omega)
          · have q1 := toNat_inj.mp q
            refine jv_to (V := V) (ih2 (by omega) f (hf.congr (fun x y hx hy => ?_))) ?_ rfl rfl
            · by_cases hyj : y = j
              · subst hyj
                by_cases hxi : x = i
                · subst hxi
                  simp [pD, hli, q1]
                · have e1 : (x < i + 1) = (x < i) := propext ⟨fun q => by omega, fun q => by omega⟩
                  simp [e1]
              · simp [hyj]
            · rw [nI_add, ei]
              show _ = [some (jR 3 p), some (jI (nI l)), some (jI (nI t)), some (jI (nI r)), some (jI (nI b)), some (jI (nI c.toNat)), some (jI (nI (sm (fun y => sm (df D c y) l (r - l)) t (j - t) + (sm (df D c j) l (i - l) + df D c j (l + (i - l)))))), some (jI (nI j)), some (jI (nI (i + 1)))]
              rw [el, show df D c j i = 0 by simp [df, q1]]
              rfl
          · have q1 : ¬ D i j = c := fun z => q (toNat_inj.mpr z)
            refine jx_cal (S_Sheet_invert hf' (by omega) (by omega)) rfl (fun q2 h' hq => ?_)
            obtain ⟨f2, rfl, hf2⟩ := hq
            refine jv_to (V := V) (ih2 (by omega) f2 (hf2.congr (fun x y hx hy => ?_))) ?_ rfl (by rw [jx_st_st])
            · by_cases hyj : y = j
              · subst hyj
                by_cases hxi : x = i
                · subst hxi
                  have q3 : (!D x y) = c := by cases hd : D x y <;> cases c <;> simp_all
                  simp [pD, hli, q3]
                · have e1 : (x < i + 1) = (x < i) := propext ⟨fun q => by omega, fun q => by omega⟩
                  simp [e1, hxi]
              · simp [hyj]
            · rw [nI_add, nI_add, ei]
              show _ = [some (jR 3 p), some (jI (nI l)), some (jI (nI t)), some (jI (nI r)), some (jI (nI b)), some (jI (nI c.toNat)), some (jI (nI (sm (fun y => sm (df D c y) l (r - l)) t (j - t) + (sm (df D c j) l (i - l) + df D c j (l + (i - l)))))), some (jI (nI j)), some (jI (nI (i + 1)))]
              rw [el, show df D c j i = 1 by simp [df, q1], Nat.add_assoc])
      refine rule (Nat.beq 16) 20 6 _ _ _ ?_
      refine pk_le b j (fun q => absurd q (by omega)) (fun _ => ?_)
      refine jv_to (V := V) (inner l hl (Nat.le_refl _) f (hf.congr (fun x y hx hy => ?_))) ?_ rfl rfl
      · rw [if_neg (fun q => by omega)]
      · rw [Nat.sub_self]
        rfl)
  refine rule (Nat.beq 6) 10 0 _ _ _ ?_
  refine jv_to (V := V) (outer t ht (Nat.le_refl _) none (h 4 p) (hL.congr (fun x y hx hy => ?_))) ?_ rfl (jx_st_id h 4 p).symm
  · unfold pD
    rw [if_neg (fun q => by omega)]
  · rw [Nat.sub_self]
    rfl
theorem jn_17 {i : Nat} (h : i ≤ 17) : nI 17 - nI i = nI (17 - i) := pk_sub h
def edge (x y : Nat) : Bool := decide (x = 0) || decide (y = 0) || decide (x = 17) || decide (y = 17)
theorem S_Sheet_drawFrameDot {p x y : Nat} {D : Nat → Nat → Bool} {h : jxH} (hL : LN (h 4 p) D) (hx : x < 18) (hy : y < 18) : jx_MW 79 [jR 3 p, jI (nI x), jI (nI y)] h (fun _ h' => ∃ f, h' = jx_st h 4 p f ∧ LN f (fun a b => if a = x ∧ b = y then fr x y else D a b)) := by
  refine jx_MW_by [some (jR 3 p), some (jI (nI x)), some (jI (nI y))] (by decide) rfl (Nat.le_of_ble_eq_true rfl) (fun V rule => ?_)
  refine rule (fun _ => false) 30 0 _ _ _ ?_
  refine jx_cal (S_Sheet_isFrameBlack hx hy) rfl (fun q h' hq => ?_)
  obtain ⟨rfl, rfl⟩ := hq
  refine jx_cal (S_Sheet_paint (l := x) (t := y) (r := x + 1) (b := y + 1) hL (by omega) (by omega) (by omega) (by omega)) (by rw [nI_add, nI_add]) (fun q h2 hq => ?_)
  obtain ⟨-, f, rfl, hf⟩ := hq
  refine Exists.intro f (And.intro rfl (hf.congr (fun a b ha hb => ?_)))
  unfold pD
  exact if_iff ⟨fun q => by omega, fun q => by omega⟩
theorem S_Sheet_drawFrame {p : Nat} {D : Nat → Nat → Bool} {h : jxH} (hL : LN (h 4 p) D) : jx_MW 93 [jR 3 p] h (fun _ h' => ∃ f, h' = jx_st h 4 p f ∧ LN f (fun a b => if edge a b = true then fr a b else D a b)) := by
  refine jx_MW_by [some (jR 3 p), none] (by decide) rfl (Nat.le_of_ble_eq_true rfl) (fun V rule => ?_)
  have loop := jl_up (P := fun i => ∀ f : Nat → Int32, LN f (fun a b => if (b = 0 ∧ a < i) ∨ (a = 17 ∧ b < i) ∨ (b = 17 ∧ 17 - i < a) ∨ (a = 0 ∧ 17 - i < b) then fr a b else D a b) → V 2 [some (jR 3 p), some (jI (nI i))] [] (jx_st h 4 p f)) 17
    (by
      intro f hf
      refine rule (fun _ => false) 10 2 _ _ _ ?_
      refine pk_le 17 17 (fun _ => ?_) (fun q => absurd q (Nat.lt_irrefl _))
      refine Exists.intro f (And.intro rfl (hf.congr (fun a b ha hb => ?_)))
      refine if_iff ?_
      simp only [edge, Bool.or_eq_true, decide_eq_true_eq]
      omega)
    (fun i hi ih => by
      intro f hf
      refine rule (Nat.beq 2) 40 2 _ _ _ ?_
      refine pk_le 17 i (fun q => absurd q (by omega)) (fun _ => ?_)
      refine jx_cal (S_Sheet_drawFrameDot (x := i) (y := 0) (hf.st h p) (by omega) (by omega)) rfl (fun q h' hq => ?_)
      obtain ⟨f1, rfl, g1⟩ := hq
      rw [jx_st_st]
      refine jx_cal (S_Sheet_drawFrameDot (x := 17) (y := i) (g1.st h p) (by omega) (by omega)) rfl (fun q h' hq => ?_)
      obtain ⟨f2, rfl, g2⟩ := hq
      rw [jx_st_st]
      refine jx_cal (S_Sheet_drawFrameDot (x := 17 - i) (y := 17) (g2.st h p) (by omega) (by omega)) (by rw [jn_17 (by omega)]) (fun q h' hq => ?_)
      obtain ⟨f3, rfl, g3⟩ := hq
      rw [jx_st_st]
      refine jx_cal (S_Sheet_drawFrameDot (x := 0) (y := 17 - i) (g3.st h p) (by omega) (by omega)) (by rw [jn_17 (by omega)]) (fun q h' hq => ?_)
      obtain ⟨f4, rfl, g4⟩ := hq
      rw [jx_st_st]
      refine jv_to (V := V) (ih f4 (g4.congr (fun a b ha hb => ?_))) (by rw [nI_add]) rfl rfl
      by_cases c4 : a = 0 ∧ b = 17 - i
      · rw [if_pos c4, if_pos (by omega), c4.1, c4.2]
      rw [if_neg c4]
      by_cases c3 : a = 17 - i ∧ b = 17
      · rw [if_pos c3, if_pos (by omega), c3.1, c3.2]
      rw [if_neg c3]
      by_cases c2 : a = 17 ∧ b = i
      · rw [if_pos c2, if_pos (by omega), c2.1, c2.2]
      rw [if_neg c2]
      by_cases c1 : a = i ∧ b = 0
      · rw [if_pos c1, if_pos (by omega), c1.1, c1.2]
      rw [if_neg c1]
      exact if_iff ⟨fun q => by omega, fun q => by omega⟩)
  refine rule (Nat.beq 2) 10 0 _ _ _ ?_
  refine jv_to (V := V) (loop 0 (Nat.zero_le _) (h 4 p) (hL.congr (fun a b ha hb => ?_))) rfl rfl (jx_st_id h 4 p).symm
  rw [if_neg (by omega)]
/-- the dot at x, y of the page turned t times -/
def tu (t : Nat) (D : Nat → Nat → Bool) : Nat → Nat → Bool := fun x y => if t = 1 then D y (17 - x) else if t = 2 then D (17 - x) (17 - y) else if t = 3 then D (17 - y) x else D x y
theorem S_Sheet_isBlackTurned {p x y t : Nat} {D : Nat → Nat → Bool} {h : jxH} (hL : LN (h 4 p) D) (hx : x < 18) (hy : y < 18) (ht : t < 4) : jx_MW 50 [jR 3 p, jI (nI x), jI (nI y), jI (nI t)] h (fun r h' => r = nI (tu t D x y).toNat ∧ h' = h) := by
  refine jx_MW_by [some (jR 3 p), some (jI (nI x)), some (jI (nI y)), some (jI (nI t))] (by decide) rfl (Nat.le_of_ble_eq_true rfl) (fun V rule => ?_)
  refine rule (fun _ => false) 20 0 _ _ _ ?_
  have b01 : ∀ b : Bool, nI b.toNat = nI 0 ∨ nI b.toNat = nI 1 := fun b => by cases b; exact Or.inl rfl; exact Or.inr rfl
  refine pk_eq t 1 (fun q => ?_) (fun q1 => ?_)
  · refine jx_cal (S_Sheet_isBlack (x := y) (y := 17 - x) hL (by omega) (by omega)) (by rw [jn_17 (by omega)]) (fun r h' hq => ?_)
    obtain ⟨rfl, rfl⟩ := hq
    exact And.intro (b01 _) (And.intro (by rw [tu, if_pos q]) rfl)
  refine pk_eq t 2 (fun q => ?_) (fun q2 => ?_)
  · refine jx_cal (S_Sheet_isBlack (x := 17 - x) (y := 17 - y) hL (by omega) (by omega)) (by rw [jn_17 (by omega), jn_17 (by omega)]) (fun r h' hq => ?_)
    obtain ⟨rfl, rfl⟩ := hq
    exact And.intro (b01 _) (And.intro (by rw [tu, if_neg q1, if_pos q]) rfl)
  refine pk_eq t 3 (fun q => ?_) (fun q3 => ?_)
  · refine jx_cal (S_Sheet_isBlack (x := 17 - y) (y := x) hL (by omega) (by omega)) (by rw [jn_17 (by omega)]) (fun r h' hq => ?_)
    obtain ⟨rfl, rfl⟩ := hq
    exact And.intro (b01 _) (And.intro (by rw [tu, if_neg q1, if_neg q2, if_pos q]) rfl)
  · refine jx_cal (S_Sheet_isBlack hL hx hy) rfl (fun r h' hq => ?_)
    obtain ⟨rfl, rfl⟩ := hq
    exact And.intro (b01 _) (And.intro (by rw [tu, if_neg q1, if_neg q2, if_neg q3]) rfl)
def ff (D : Nat → Nat → Bool) (x y : Nat) : Nat := if D x y = fr x y then 0 else 1
theorem S_Sheet_frameFault {p x y t : Nat} {D : Nat → Nat → Bool} {h : jxH} (hL : LN (h 4 p) D) (hx : x < 18) (hy : y < 18) (ht : t < 4) : jx_MW 81 [jR 3 p, jI (nI x), jI (nI y), jI (nI t)] h (fun r h' => r = nI (ff (tu t D) x y) ∧ h' = h) := by
  refine jx_MW_by [some (jR 3 p), some (jI (nI x)), some (jI (nI y)), some (jI (nI t))] (by decide) rfl (Nat.le_of_ble_eq_true rfl) (fun V rule => ?_)
  refine rule (fun _ => false) 20 0 _ _ _ ?_
  refine jx_cal (S_Sheet_isBlackTurned hL hx hy ht) rfl (fun r h' hq => ?_)
  obtain ⟨rfl, rfl⟩ := hq
  refine jx_cal (S_Sheet_isFrameBlack hx hy) rfl (fun r h2 hq => ?_)
  obtain ⟨rfl, rfl⟩ := hq
  refine pk_eq (tu t D x y).toNat (fr x y).toNat (fun q => ?_) (fun q => ?_) rfl rfl (by have := toNat_le (tu t D x y); omega) (by have := toNat_le (fr x y); omega)
  · exact And.intro (by rw [ff, if_pos (toNat_inj.mp q)]) rfl
  · exact And.intro (by rw [ff, if_neg (fun z => q (toNat_inj.mpr z))]) rfl
/-- the frame's faults, in the order in which the class counts them -/
def fts (D : Nat → Nat → Bool) : Nat → Nat
  | 0 => 0
  | i + 1 => fts D i + ff D i 0 + ff D 17 i + ff D (17 - i) 17 + ff D 0 (17 - i)
theorem ff_le (D : Nat → Nat → Bool) (x y : Nat) : ff D x y ≤ 1 := by unfold ff; split <;> omega
theorem fts_le (D : Nat → Nat → Bool) : ∀ i, fts D i ≤ 4 * i
  | 0 => Nat.le_refl _
  | i + 1 => by
    have h1 := fts_le D i
    have h2 := ff_le D i 0
    have h3 := ff_le D 17 i
    have h4 := ff_le D (17 - i) 17
    have h5 := ff_le D 0 (17 - i)
    show fts D i + ff D i 0 + ff D 17 i + ff D (17 - i) 17 + ff D 0 (17 - i) ≤ _
    omega
theorem S_Sheet_frameFaults {p t : Nat} {D : Nat → Nat → Bool} {h : jxH} (hL : LN (h 4 p) D) (ht : t < 4) : jx_MW 94 [jR 3 p, jI (nI t)] h (fun r h' => r = nI (fts (tu t D) 17) ∧ h' = h) := by
  refine jx_MW_by [some (jR 3 p), some (jI (nI t)), none, none] (by decide) rfl (Nat.le_of_ble_eq_true rfl) (fun V rule => ?_)
  have loop := jl_up (P := fun i => V 4 [some (jR 3 p), some (jI (nI t)), some (jI (nI (fts (tu t D) i))), some (jI (nI i))] [] h) 17
    (by
      refine rule (fun _ => false) 10 4 _ _ _ ?_
      refine pk_le 17 17 (fun _ => ?_) (fun q => absurd q (Nat.lt_irrefl _))
      exact And.intro rfl rfl)
    (fun i hi ih => by
      refine rule (Nat.beq 4) 60 4 _ _ _ ?_
      refine pk_le 17 i (fun q => absurd q (by omega)) (fun _ => ?_)
      refine jx_cal (S_Sheet_frameFault (x := i) (y := 0) hL (by omega) (by omega) ht) rfl (fun r h' hq => ?_)
      obtain ⟨rfl, rfl⟩ := hq
      refine jx_cal (S_Sheet_frameFault (x := 17) (y := i) hL (by omega) (by omega) ht) rfl (fun r h' hq => ?_)
      obtain ⟨rfl, rfl⟩ := hq
      refine jx_cal (S_Sheet_frameFault (x := 17 - i) (y := 17) hL (by omega) (by omega) ht) (by rw [jn_17 (by omega)]) (fun r h' hq => ?_)
      obtain ⟨rfl, rfl⟩ := hq
      refine jx_cal (S_Sheet_frameFault (x := 0) (y := 17 - i) hL (by omega) (by omega) ht) (by rw [jn_17 (by omega)]) (fun r h' hq => ?_)
      obtain ⟨rfl, rfl⟩ := hq
      exact jv_to (V := V) ih (by rw [nI_add, nI_add, nI_add, nI_add, nI_add]; rfl) rfl rfl)
  refine rule (Nat.beq 4) 10 0 _ _ _ ?_
  exact loop 0 (Nat.zero_le _)
end
section
/-! Sheet: symbols in blocks. -/
def bX (b : Nat) : Nat := 1 + 2 * (b % 8)
def bY (b : Nat) : Nat := 1 + 2 * (b / 8)
def inB (bl a b : Nat) : Prop := bX bl ≤ a ∧ a < bX bl + 2 ∧ bY bl ≤ b ∧ b < bY bl + 2
/-- the symbol s drawn into the block bl -/
noncomputable def bD (D : Nat → Nat → Bool) (bl s : Nat) : Nat → Nat → Bool := fun a b => if bX bl ≤ a ∧ a < bX bl + 2 ∧ bY bl ≤ b ∧ b < bY bl + 2 then s.testBit (a - bX bl + 2 * (b - bY bl)) else D a b
theorem S_Sheet_drawSymbol {p bl s : Nat} {D : Nat → Nat → Bool} {h : jxH} (hL : LN (h 4 p) D) (hb : bl < 64) (hs : s < 16) : jx_MW 80 [jR 3 p, jI (nI bl), jI (nI s)] h (fun _ h' => ∃ f, h' = jx_st h 4 p f ∧ LN f (bD D bl s)) := by
  refine jx_MW_by [some (jR 3 p), some (jI (nI bl)), some (jI (nI s)), none, none, none] (by decide) rfl (Nat.le_of_ble_eq_true rfl) (fun V rule => ?_)
  have hx : bX bl ≤ 15 := by unfold bX; omega
  have hy : bY bl ≤ 15 := by unfold bY; omega
  have loop := jl_up (P := fun i => ∀ f : Nat → Int32, LN f (fun a b => if (bX bl ≤ a ∧ a < bX bl + 2 ∧ bY bl ≤ b ∧ b < bY bl + 2) ∧ a - bX bl + 2 * (b - bY bl) < i then s.testBit (a - bX bl + 2 * (b - bY bl)) else D a b) → V 14 [some (jR 3 p), some (jI (nI bl)), some (jI (nI s)), some (jI (nI (bX bl))), some (jI (nI (bY bl))), some (jI (nI i))] [] (jx_st h 4 p f)) 4
    (by
      intro f hf
      refine rule (fun _ => false) 10 14 _ _ _ ?_
      refine pk_le 4 4 (fun _ => ?_) (fun q => absurd q (Nat.lt_irrefl _))
      refine Exists.intro f (And.intro rfl (hf.congr (fun a b ha hb => ?_)))
      unfold bD
      exact if_iff ⟨fun q => q.1, fun q => ⟨q, by omega⟩⟩)
    (fun i hi ih => by
      intro f hf
      refine rule (Nat.beq 14) 60 14 _ _ _ ?_
      refine pk_le 4 i (fun q => absurd q (by omega)) (fun _ => ?_)
      refine And.intro (by decide) ?_
      refine And.intro (by decide) ?_
      refine And.intro (by decide) ?_
      refine And.intro (by decide) ?_
      have er : nI i - nI i / nI 2 * nI 2 = nI (i % 2) := jn_rem (by omega) (by decide) (by decide)
      have ed : nI i / nI 2 = nI (i / 2) := pk_div (by omega) (by decide) (by decide)
      have fin : ∀ c : Bool, s.testBit i = c → jx_MW 51 [jR 3 p, jI (nI (bX bl) + (nI i - nI i / nI 2 * nI 2)), jI (nI (bY bl) + nI i / nI 2), jI (nI (bX bl) + (nI i - nI i / nI 2 * nI 2) + nI 1), jI (nI (bY bl) + nI i / nI 2 + nI 1), jI (nI c.toNat)] (jx_st h 4 p f) (fun _ h' => V 14 [some (jR 3 p), some (jI (nI bl)), some (jI (nI s)), some (jI (nI (bX bl))), some (jI (nI (bY bl))), some (jI (nI i + nI 1))] [] h') := by
        intro c hc
        refine jx_cal (S_Sheet_paint (l := bX bl + i % 2) (t := bY bl + i / 2) (r := bX bl + i % 2 + 1) (b := bY bl + i / 2 + 1) (hf.st h p) (by omega) (by omega) (by omega) (by omega)) (by rw [er, ed, nI_add, nI_add, nI_add, nI_add]) (fun q h2 hq => ?_)
        obtain ⟨-, f2, rfl, hf2⟩ := hq
        refine jv_to (V := V) (ih f2 (hf2.congr (fun a b ha hb => ?_))) (by rw [nI_add]) rfl (by rw [jx_st_st])
        unfold pD
        by_cases c1 : bX bl + i % 2 ≤ a ∧ a < bX bl + i % 2 + 1 ∧ bY bl + i / 2 ≤ b ∧ b < bY bl + i / 2 + 1
        · have e1 : a - bX bl + 2 * (b - bY bl) = i := by omega
          rw [if_pos c1, if_pos ⟨by omega, by omega⟩, e1, hc]
        · rw [if_neg c1]
          exact if_iff ⟨fun q => ⟨q.1, by omega⟩, fun q => ⟨q.1, by omega⟩⟩
      have et : s.testBit i = decide (s / 2 ^ i % 2 = 1) := tb_div s i
      refine pk_eq (s / 2 ^ i % 2) 1 (fun q => ?_) (fun q => ?_) (by rw [jn_shr (by omega) (by omega), jn_and, Nat.and_one_is_mod]) rfl
      · exact fin true (by rw [et]; simp [q])
      · exact fin false (by rw [et]; simp [q]))
  refine rule (Nat.beq 14) 20 0 _ _ _ ?_
  refine jx_cal (S_Sheet_blockX (b := bl) (by omega)) rfl (fun q h' hq => ?_)
  obtain ⟨rfl, rfl⟩ := hq
  refine jx_cal (S_Sheet_blockY (b := bl) (by omega)) rfl (fun q h' hq => ?_)
  obtain ⟨rfl, rfl⟩ := hq
  refine jv_to (V := V) (loop 0 (Nat.zero_le _) (h' 4 p) (hL.congr (fun a b ha hb => ?_))) rfl rfl (jx_st_id h' 4 p).symm
  rw [if_neg (fun q => absurd q.2 (Nat.not_lt_zero _))]
/-- the number of the bits g 0, g 1 .. -/
def sv (g : Nat → Bool) : Nat → Nat
  | 0 => 0
  | n + 1 => if g n = true then sv g n ||| 2 ^ n else sv g n
theorem sv_lt (g : Nat → Bool) : ∀ n, sv g n < 2 ^ n
  | 0 => Nat.succ_pos 0
  | n + 1 => by
    have h1 := sv_lt g n
    have h2 : 2 ^ n < 2 ^ (n + 1) := Nat.pow_lt_pow_right (by decide) (Nat.lt_succ_self n)
    unfold sv
    split
    · exact Nat.or_lt_two_pow (Nat.lt_trans h1 h2) h2
    · exact Nat.lt_trans h1 h2
theorem S_Sheet_symbolAt {p bl t : Nat} {D : Nat → Nat → Bool} {h : jxH} (hL : LN (h 4 p) D) (hb : bl < 64) (ht : t < 4) : jx_MW 82 [jR 3 p, jI (nI bl), jI (nI t)] h (fun r h' => r = nI (sv (fun k => tu t D (bX bl + k % 2) (bY bl + k / 2)) 4) ∧ h' = h) := by
  refine jx_MW_by [some (jR 3 p), some (jI (nI bl)), some (jI (nI t)), none, none, none, none] (by decide) rfl (Nat.le_of_ble_eq_true rfl) (fun V rule => ?_)
  have hx : bX bl ≤ 15 := by unfold bX; omega
  have hy : bY bl ≤ 15 := by unfold bY; omega
  have loop := jl_up (P := fun i => V 17 [some (jR 3 p), some (jI (nI bl)), some (jI (nI t)), some (jI (nI (bX bl))), some (jI (nI (bY bl))), some (jI (nI (sv (fun k => tu t D (bX bl + k % 2) (bY bl + k / 2)) i))), some (jI (nI i))] [] h) 4
    (by
      refine rule (fun _ => false) 10 17 _ _ _ ?_
      refine pk_le 4 4 (fun _ => ?_) (fun q => absurd q (Nat.lt_irrefl _))
      exact And.intro rfl rfl)
    (fun i hi ih => by
      refine rule (Nat.beq 17) 60 17 _ _ _ ?_
      refine pk_le 4 i (fun q => absurd q (by omega)) (fun _ => ?_)
      refine And.intro (by decide) ?_
      refine And.intro (by decide) ?_
      have er : nI i - nI i / nI 2 * nI 2 = nI (i % 2) := jn_rem (by omega) (by decide) (by decide)
      have ed : nI i / nI 2 = nI (i / 2) := pk_div (by omega) (by decide) (by decide)
      refine jx_cal (S_Sheet_isBlackTurned (x := bX bl + i % 2) (y := bY bl + i / 2) hL (by omega) (by omega) ht) (by rw [er, ed, nI_add, nI_add]) (fun q h2 hq => ?_)
      obtain ⟨rfl, rfl⟩ := hq
      have hpw : 2 ^ i ≤ 2 ^ 4 := Nat.pow_le_pow_right (by decide) (by omega)
      refine pk_eq (tu t D (bX bl + i % 2) (bY bl + i / 2)).toNat 0 (fun q => ?_) (fun q => ?_) rfl rfl (by have := toNat_le (tu t D (bX bl + i % 2) (bY bl + i / 2)); omega) (by decide)
      · have e0 : tu t D (bX bl + i % 2) (bY bl + i / 2) = false := by cases hd : tu t D (bX bl + i % 2) (bY bl + i / 2) with
          | false => rfl
          | true => rw [hd] at q; cases q
        exact jv_to (V := V) ih (by rw [nI_add, sv, e0]; rfl) rfl rfl
      · have e0 : tu t D (bX bl + i % 2) (bY bl + i / 2) = true := by cases hd : tu t D (bX bl + i % 2) (bY bl + i / 2) with
          | true => rfl
          | false => rw [hd] at q; exact absurd rfl q
        exact jv_to (V := V) ih (by rw [nI_add, jn_shl (by omega) (by rw [Nat.one_mul]; omega), jn_or, Nat.one_mul, sv, e0]; rfl) rfl rfl)
  refine rule (Nat.beq 17) 20 0 _ _ _ ?_
  refine jx_cal (S_Sheet_blockX (b := bl) (by omega)) rfl (fun q h' hq => ?_)
  obtain ⟨rfl, rfl⟩ := hq
  refine jx_cal (S_Sheet_blockY (b := bl) (by omega)) rfl (fun q h' hq => ?_)
  obtain ⟨rfl, rfl⟩ := hq
  exact loop 0 (Nat.zero_le _)
end
section
/-! Row: sums, correction, completion, drawing, lifting. -/
theorem AR.st {f : Nat → Int32} {n m : Nat} {s : Nat → Nat} (h : jxH) (k p : Nat) (hf : AR f n m s) : AR (jx_st h k p f k p) n m s := by
  rw [jx_st_same]
  exact hf
/-- sum number j (from 0) of a row -/
def sy (s : Nat → Nat) (j : Nat) : Nat := xs (fun i => gf_ml (s i) (gf_pw (i * (j + 1)))) 15
theorem sy_lt (s : Nat → Nat) (j : Nat) : sy s j < 16 := xs_lt (fun _ _ => gf_ml_lt _ _)
theorem S_Row_isWord {i : Nat} {u : Nat → Nat} {h : jxH} (hu : AR (h 8 i) 4 16 u) : jx_MW 10 [jR 6 i] h (fun r h' => r = nI (decide (u 0 ||| u 1 ||| u 2 ||| u 3 = 0)).toNat ∧ h' = h) := by
  refine jx_MW_by [some (jR 6 i)] (by decide) rfl (Nat.le_of_ble_eq_true rfl) (fun V rule => ?_)
  refine rule (fun _ => false) 40 0 _ _ _ ?_
  refine Exists.intro 0 (And.intro (And.intro (by decide) rfl) ?_)
  refine Exists.intro 1 (And.intro (And.intro (by decide) rfl) ?_)
  refine Exists.intro 2 (And.intro (And.intro (by decide) rfl) ?_)
  refine Exists.intro 3 (And.intro (And.intro (by decide) rfl) ?_)
  have l4 : u 0 ||| u 1 ||| u 2 ||| u 3 < 2 ^ 4 := Nat.or_lt_two_pow (Nat.or_lt_two_pow (Nat.or_lt_two_pow (hu.lt (by decide)) (hu.lt (by decide))) (hu.lt (by decide))) (hu.lt (by decide))
  refine pk_eq (u 0 ||| u 1 ||| u 2 ||| u 3) 0 (fun q => ?_) (fun q => ?_) (by rw [hu.at (show 0 < 4 by decide), hu.at (show 1 < 4 by decide), hu.at (show 2 < 4 by decide), hu.at (show 3 < 4 by decide), jn_or, jn_or, jn_or]) rfl
  · exact And.intro (Or.inr rfl) (And.intro (by simp [q]) rfl)
  · exact And.intro (Or.inl rfl) (And.intro (by simp [q]) rfl)
theorem S_Row_findSums {i : Nat} {s : Nat → Nat} {h : jxH} (hs : AR (h 7 i) 15 16 s) : jx_MW 54 [jR 6 i] h (fun _ h' => ∃ f, h' = jx_st h 8 i f ∧ AR f 4 16 (sy s)) := by
  refine jx_MW_by [some (jR 6 i), none, none, none] (by decide) rfl (Nat.le_of_ble_eq_true rfl) (fun V rule => ?_)
  have outer := jl_up (P := fun j => ∀ (o1 o2 : Option jxV) (f : Nat → Int32), (∀ k, k < j → f k = nI (sy s k)) → V 2 [some (jR 6 i), some (jI (nI j)), o1, o2] [] (jx_st h 8 i f)) 4
    (by
      intro o1 o2 f hf
      refine rule (fun _ => false) 10 2 _ _ _ ?_
      refine pk_le 4 4 (fun _ => ?_) (fun q => absurd q (Nat.lt_irrefl _))
      exact Exists.intro f (And.intro rfl (fun k hk => ⟨hf k hk, sy_lt s k⟩)))
    (fun j hj ih => by
      intro o1 o2 f hf
      have inner := jl_up (P := fun n => V 11 [some (jR 6 i), some (jI (nI j)), some (jI (nI (xs (fun i => gf_ml (s i) (gf_pw (i * (j + 1)))) n))), some (jI (nI n))] [] (jx_st h 8 i f)) 15
        (by
          refine rule (Nat.beq 2) 20 11 _ _ _ ?_
          refine pk_le 15 15 (fun _ => ?_) (fun q => absurd q (Nat.lt_irrefl _))
          refine Exists.intro j (And.intro (And.intro hj rfl) ?_)
          refine jv_to (V := V) (ih (some (jI (nI (sy s j)))) (some (jI (nI 15))) (upd f j (nI (sy s j))) (fun k hk => ?_)) (by rw [nI_add]; rfl) rfl (by rw [jx_st_same, jx_st_st]; rfl)
          by_cases hkj : k = j
          · subst hkj; exact upd_same _ _ _
          · rw [upd_ne _ _ hkj]; exact hf k (by omega))
        (fun n hn ih2 => by
          refine rule (Nat.beq 11) 30 11 _ _ _ ?_
          refine pk_le 15 n (fun q => absurd q (by omega)) (fun _ => ?_)
          refine Exists.intro n (And.intro (And.intro hn rfl) ?_)
          have hnj : n * (j + 1) < 100 := Nat.lt_of_le_of_lt (Nat.mul_le_mul (show n ≤ 14 by omega) (show j + 1 ≤ 4 by omega)) (by decide)
          refine jx_cal (S_power (e := n * (j + 1)) (by omega)) (by rw [nI_add, pk_mul]) (fun q h2 hq => ?_)
          obtain ⟨rfl, rfl⟩ := hq
          refine jx_cal (S_product (hs.lt hn) (gf_pw_lt _)) (by rw [show jx_st h 8 i f 7 i n = h 7 i n from rfl, hs.at hn]) (fun q h2 hq => ?_)
          obtain ⟨rfl, rfl⟩ := hq
          exact jv_to (V := V) ih2 (by rw [jn_xor, nI_add]; rfl) rfl rfl)
      refine rule (Nat.beq 11) 20 2 _ _ _ ?_
      refine pk_le 4 j (fun q => absurd q (by omega)) (fun _ => ?_)
      exact inner 0 (Nat.zero_le _))
  refine rule (Nat.beq 2) 10 0 _ _ _ ?_
  exact jv_to (V := V) (outer 0 (Nat.zero_le _) none none (h 8 i) (fun k hk => absurd hk (Nat.not_lt_zero _))) rfl rfl (jx_st_id h 8 i).symm
/-- whether u (at i) and v (at k) in the first sum bring the later sums -/
def as1 (S : Nat → Nat) (i u k v j : Nat) : Bool := decide (gf_ml u (gf_pw (i * j)) ^^^ gf_ml v (gf_pw (k * j)) = S j)
def aso (S : Nat → Nat) (i u k v : Nat) : Bool := as1 S i u k v 1 && (as1 S i u k v 2 && as1 S i u k v 3)
theorem S_Row_areSumsOf {w i u k v : Nat} {S : Nat → Nat} {h : jxH} (hS : AR (h 8 w) 4 16 S) (hi : i < 15) (hu : u < 16) (hk : k < 15) (hv : v < 16) : jx_MW 52 [jR 6 w, jI (nI i), jI (nI u), jI (nI k), jI (nI v)] h (fun r h' => r = nI (aso S i u k v).toNat ∧ h' = h) := by
  refine jx_MW_by [some (jR 6 w), some (jI (nI i)), some (jI (nI u)), some (jI (nI k)), some (jI (nI v)), none, none, none] (by decide) rfl (Nat.le_of_ble_eq_true rfl) (fun V rule => ?_)
  have loop := jl_up (P := fun j => 1 ≤ j → ∀ (o1 o2 : Option jxV), (∀ n, 1 ≤ n → n < j → as1 S i u k v n = true) → V 3 [some (jR 6 w), some (jI (nI i)), some (jI (nI u)), some (jI (nI k)), some (jI (nI v)), some (jI (nI j)), o1, o2] [] h) 4
    (by
      intro _ o1 o2 hn
      refine rule (fun _ => false) 10 3 _ _ _ ?_
      refine pk_le 4 4 (fun _ => ?_) (fun q => absurd q (Nat.lt_irrefl _))
      refine And.intro (Or.inr rfl) (And.intro ?_ rfl)
      rw [aso, hn 1 (by decide) (by decide), hn 2 (by decide) (by decide), hn 3 (by decide) (by decide)]
      rfl)
    (fun j hj ih => by
      intro h1j o1 o2 hn
      refine rule (Nat.beq 3) 50 3 _ _ _ ?_
      refine pk_le 4 j (fun q => absurd q (by omega)) (fun _ => ?_)
      have hij : i * j < 100 := Nat.lt_of_le_of_lt (Nat.mul_le_mul (show i ≤ 14 by omega) (show j ≤ 3 by omega)) (by decide)
      have hkj : k * j < 100 := Nat.lt_of_le_of_lt (Nat.mul_le_mul (show k ≤ 14 by omega) (show j ≤ 3 by omega)) (by decide)
      refine jx_cal (S_power (e := i * j) (by omega)) (by rw [pk_mul]) (fun q h2 hq => ?_)
      obtain ⟨rfl, rfl⟩ := hq
      refine jx_cal (S_product hu (gf_pw_lt _)) rfl (fun q h2 hq => ?_)
      obtain ⟨rfl, rfl⟩ := hq
      refine jx_cal (S_power (e := k * j) (by omega)) (by rw [pk_mul]) (fun q h2 hq => ?_)
      obtain ⟨rfl, rfl⟩ := hq
      refine jx_cal (S_product hv (gf_pw_lt _)) rfl (fun q h2 hq => ?_)
      obtain ⟨rfl, rfl⟩ := hq
      refine Exists.intro j (And.intro (And.intro hj rfl) ?_)
      have x16 : gf_ml u (gf_pw (i * j)) ^^^ gf_ml v (gf_pw (k * j)) < 16 := gf_xor_lt (gf_ml_lt _ _) (gf_ml_lt _ _)
      have s16 := hS.lt hj
      refine pk_eq (gf_ml u (gf_pw (i * j)) ^^^ gf_ml v (gf_pw (k * j))) (S j) (fun q => ?_) (fun q => ?_) (by rw [jn_xor]) (hS.at hj)
      · refine jv_to (V := V) (ih (by omega) _ _ (fun n h1 h2 => ?_)) (by rw [nI_add]) rfl rfl
        by_cases hnj : n = j
        · subst hnj; simp [as1, q]
        · exact hn n h1 (by omega)
      · refine And.intro (Or.inl rfl) (And.intro ?_ rfl)
        have e : as1 S i u k v j = false := by simp [as1, q]
        have e2 : aso S i u k v = false := by
          rcases (show j = 1 ∨ j = 2 ∨ j = 3 by omega) with rfl | rfl | rfl <;> simp [aso, e]
        rw [e2]
        rfl)
  refine rule (Nat.beq 3) 10 0 _ _ _ ?_
  exact loop 1 (by decide) (Nat.le_refl _) none none (fun n h1 h2 => by omega)
theorem S_Row_mend {w i u : Nat} {s : Nat → Nat} {h : jxH} (hs : AR (h 7 w) 15 16 s) (hi : i < 15) (hu : u < 16) : jx_MW 56 [jR 6 w, jI (nI i), jI (nI u)] h (fun _ h' => ∃ f, h' = jx_st h 7 w f ∧ AR f 15 16 (nup s i (s i ^^^ gf_qt u (gf_pw i)))) := by
  refine jx_MW_by [some (jR 6 w), some (jI (nI i)), some (jI (nI u))] (by decide) rfl (Nat.le_of_ble_eq_true rfl) (fun V rule => ?_)
  refine rule (fun _ => false) 20 0 _ _ _ ?_
  refine Exists.intro i (And.intro (And.intro hi rfl) ?_)
  refine jx_cal (S_power (e := i) (by omega)) rfl (fun q h2 hq => ?_)
  obtain ⟨rfl, rfl⟩ := hq
  refine jx_cal (S_quotient hu (gf_pw_lt i)) rfl (fun q h2 hq => ?_)
  obtain ⟨rfl, rfl⟩ := hq
  refine Exists.intro i (And.intro (And.intro hi rfl) ?_)
  refine Exists.intro _ (And.intro ?_ (hs.put (gf_xor_lt (hs.lt hi) (gf_qt_lt _ _))))
  rw [hs.at hi, jn_xor]
/-- the first place from i on, of n, where P holds -/
def fst (P : Nat → Bool) : Nat → Nat → Option Nat
  | _, 0 => none
  | i, n + 1 => if P i = true then some i else fst P (i + 1) n
theorem fst_none {P : Nat → Bool} : ∀ {n i : Nat}, (∀ k, i ≤ k → k < i + n → P k = false) → fst P i n = none
  | 0, _, _ => rfl
  | n + 1, i, h => by
    unfold fst
    rw [if_neg (by rw [h i (Nat.le_refl _) (by omega)]; decide)]
    exact fst_none (fun k h1 h2 => h k (by omega) (by omega))
theorem fst_some {P : Nat → Bool} : ∀ {n i j : Nat}, i ≤ j → j < i + n → (∀ k, i ≤ k → k < j → P k = false) → P j = true → fst P i n = some j
  | 0, _, _, h1, h2, _, _ => by omega
  | n + 1, i, j, h1, h2, h3, h4 => by
    unfold fst
    by_cases hij : i = j
    · subst hij
      rw [if_pos h4]
    · rw [if_neg (by rw [h3 i (Nat.le_refl _) (by omega)]; decide)]
      exact fst_some (by omega) (by omega) (fun k k1 k2 => h3 k (by omega) k2) h4
theorem fst_lt {P : Nat → Bool} : ∀ {n i j : Nat}, fst P i n = some j → i ≤ j ∧ j < i + n ∧ P j = true
  | 0, _, _, h => by cases h
  | n + 1, i, j, h => by
    unfold fst at h
    by_cases hp : P i = true
    · rw [if_pos hp] at h
      cases h
      exact ⟨Nat.le_refl _, by omega, hp⟩
    · rw [if_neg hp] at h
      obtain ⟨h1, h2, h3⟩ := fst_lt h
      exact ⟨by omega, by omega, h3⟩
def c1 (S : Nat → Nat) : Option Nat := fst (fun i => aso S i (S 0) i 0) 0 15
theorem S_Row_correctOne {w : Nat} {s S : Nat → Nat} {h : jxH} (hs : AR (h 7 w) 15 16 s) (hS : AR (h 8 w) 4 16 S) : jx_MW 83 [jR 6 w] h (fun r h' => match c1 S with
    | some i => r = nI 1 ∧ ∃ f, h' = jx_st h 7 w f ∧ AR f 15 16 (nup s i (s i ^^^ gf_qt (S 0) (gf_pw i)))
    | none => r = nI 0 ∧ h' = h) := by
  refine jx_MW_by [some (jR 6 w), none] (by decide) rfl (Nat.le_of_ble_eq_true rfl) (fun V rule => ?_)
  have loop := jl_up (P := fun i => (∀ k, k < i → aso S k (S 0) k 0 = false) → V 2 [some (jR 6 w), some (jI (nI i))] [] h) 15
    (by
      intro hn
      refine rule (fun _ => false) 10 2 _ _ _ ?_
      refine pk_le 15 15 (fun _ => ?_) (fun q => absurd q (Nat.lt_irrefl _))
      refine And.intro (Or.inl rfl) ?_
      have e : c1 S = none := fst_none (fun k _ h2 => hn k (by omega))
      rw [e]
      exact And.intro rfl rfl)
    (fun i hi ih => by
      intro hn
      refine rule (Nat.beq 2) 30 2 _ _ _ ?_
      refine pk_le 15 i (fun q => absurd q (by omega)) (fun _ => ?_)
      refine Exists.intro 0 (And.intro (And.intro (by decide) rfl) ?_)
      refine jx_cal (S_Row_areSumsOf (i := i) (u := S 0) (k := i) (v := 0) hS hi (hS.lt (by decide)) hi (by decide)) (by rw [hS.at (show 0 < 4 by decide)]) (fun q h2 hq => ?_)
      obtain ⟨rfl, rfl⟩ := hq
      refine pk_eq (aso S i (S 0) i 0).toNat 0 (fun q => ?_) (fun q => ?_) rfl rfl (by have := toNat_le (aso S i (S 0) i 0); omega) (by decide)
      · have e0 : aso S i (S 0) i 0 = false := by cases hd : aso S i (S 0) i 0 with
          | false => rfl
          | true => rw [hd] at q; cases q
        refine jv_to (V := V) (ih (fun k hk => ?_)) (by rw [nI_add]) rfl rfl
        by_cases hki : k = i
        · subst hki; exact e0
        · exact hn k (by omega)
      · have e0 : aso S i (S 0) i 0 = true := by cases hd : aso S i (S 0) i 0 with
          | true => rfl
          | false => rw [hd] at q; exact absurd rfl q
        refine Exists.intro 0 (And.intro (And.intro (by decide) rfl) ?_)
        refine jx_cal (S_Row_mend (i := i) (u := S 0) hs hi (hS.lt (by decide))) (by rw [hS.at (show 0 < 4 by decide)]) (fun q h2 hq => ?_)
        refine And.intro (Or.inr rfl) ?_
        have e : c1 S = some i := fst_some (Nat.zero_le _) (by omega) (fun k _ hk => hn k hk) e0
        rw [e]
        exact And.intro rfl hq)
  refine rule (Nat.beq 2) 10 0 _ _ _ ?_
  exact loop 0 (Nat.zero_le _) (fun k hk => absurd hk (Nat.not_lt_zero _))
/-- the second fault's part of the first sum, faults at i and k -/
def vv (S : Nat → Nat) (i k : Nat) : Nat := gf_s2 (S 0) (S 1) (gf_pw i) (gf_pw k)
def q2 (S : Nat → Nat) (i k : Nat) : Bool := aso S i (S 0 ^^^ vv S i k) k (vv S i k)
/-- the first pair from i on, of n -/
def fs2 (S : Nat → Nat) : Nat → Nat → Option (Nat × Nat)
  | _, 0 => none
  | i, n + 1 => match fst (q2 S i) (i + 1) (14 - i) with
    | some k => some (i, k)
    | none => fs2 S (i + 1) n
theorem fs2_none {S : Nat → Nat} : ∀ {n i : Nat}, (∀ a, i ≤ a → a < i + n → fst (q2 S a) (a + 1) (14 - a) = none) → fs2 S i n = none
  | 0, _, _ => rfl
  | n + 1, i, h => by
    unfold fs2
    rw [h i (Nat.le_refl _) (by omega)]
    exact fs2_none (fun k h1 h2 => h k (by omega) (by omega))
theorem fs2_some {S : Nat → Nat} : ∀ {n i j k : Nat}, i ≤ j → j < i + n → (∀ a, i ≤ a → a < j → fst (q2 S a) (a + 1) (14 - a) = none) → fst (q2 S j) (j + 1) (14 - j) = some k → fs2 S i n = some (j, k)
  | 0, _, _, _, h1, h2, _, _ => by omega
  | n + 1, i, j, k, h1, h2, h3, h4 => by
    unfold fs2
    by_cases hij : i = j
    · subst hij
      rw [h4]
    · rw [h3 i (Nat.le_refl _) (by omega)]
      exact fs2_some (by omega) (by omega) (fun a k1 k2 => h3 a (by omega) k2) h4
def c2 (S : Nat → Nat) : Option (Nat × Nat) := fs2 S 0 15
def m2 (S s : Nat → Nat) (i k : Nat) : Nat → Nat := nup (nup s i (s i ^^^ gf_qt (S 0 ^^^ vv S i k) (gf_pw i))) k (s k ^^^ gf_qt (vv S i k) (gf_pw k))
theorem S_Row_correctTwo {w : Nat} {s S : Nat → Nat} {h : jxH} (hs : AR (h 7 w) 15 16 s) (hS : AR (h 8 w) 4 16 S) : jx_MW 84 [jR 6 w] h (fun r h' => match c2 S with
    | some q => r = nI 1 ∧ ∃ f, h' = jx_st h 7 w f ∧ AR f 15 16 (m2 S s q.1 q.2)
    | none => r = nI 0 ∧ h' = h) := by
  refine jx_MW_by [some (jR 6 w), none, none, none, none] (by decide) rfl (Nat.le_of_ble_eq_true rfl) (fun V rule => ?_)
  have outer := jl_up (P := fun i => ∀ o1 o2 o3 : Option jxV, (∀ a, a < i → fst (q2 S a) (a + 1) (14 - a) = none) → V 2 [some (jR 6 w), some (jI (nI i)), o1, o2, o3] [] h) 15
    (by
      intro o1 o2 o3 hn
      refine rule (fun _ => false) 10 2 _ _ _ ?_
      refine pk_le 15 15 (fun _ => ?_) (fun q => absurd q (Nat.lt_irrefl _))
      refine And.intro (Or.inl rfl) ?_
      have e : c2 S = none := fs2_none (fun k _ h2 => hn k (by omega))
      rw [e]
      exact And.intro rfl rfl)
    (fun i hi ih => by
      intro o1 o2 o3 hn
      have inner := jl_up (P := fun k => i + 1 ≤ k → ∀ o2 o3 : Option jxV, (∀ a, i + 1 ≤ a → a < k → q2 S i a = false) → V 12 [some (jR 6 w), some (jI (nI i)), some (jI (nI k)), o2, o3] [] h) 15
        (by
          intro _ o2 o3 hm
          refine rule (Nat.beq 2) 20 12 _ _ _ ?_
          refine pk_le 15 15 (fun _ => ?_) (fun q => absurd q (Nat.lt_irrefl _))
          refine jv_to (V := V) (ih (some (jI (nI 15))) o2 o3 (fun a ha => ?_)) (by rw [nI_add]) rfl rfl
          by_cases hai : a = i
          · subst hai
            exact fst_none (fun b h1 h2 => hm b h1 (by omega))
          · exact hn a (by omega))
        (fun k hk ih2 => by
          intro hik o2 o3 hm
          refine rule (Nat.beq 12) 60 12 _ _ _ ?_
          refine pk_le 15 k (fun q => absurd q (by omega)) (fun _ => ?_)
          refine Exists.intro 0 (And.intro (And.intro (by decide) rfl) ?_)
          refine Exists.intro 1 (And.intro (And.intro (by decide) rfl) ?_)
          refine jx_cal (S_power (e := i) (by omega)) rfl (fun q h2 hq => ?_)
          obtain ⟨rfl, rfl⟩ := hq
          refine jx_cal (S_power (e := k) (by omega)) rfl (fun q h2 hq => ?_)
          obtain ⟨rfl, rfl⟩ := hq
          have s0 := hS.lt (show 0 < 4 by decide)
          have s1 := hS.lt (show 1 < 4 by decide)
          have a0 := hS.at (show 0 < 4 by decide)
          have a1 := hS.at (show 1 < 4 by decide)
          refine jx_cal (S_secondOfTwo s0 s1 (gf_pw_lt i) (gf_pw_lt k)) (by rw [a0, a1]) (fun q h2 hq => ?_)
          obtain ⟨rfl, rfl⟩ := hq
          have v16 : vv S i k < 16 := gf_qt_lt _ _
          refine Exists.intro 0 (And.intro (And.intro (by decide) rfl) ?_)
          refine jx_cal (S_Row_areSumsOf (i := i) (u := S 0 ^^^ vv S i k) (k := k) (v := vv S i k) hS hi (gf_xor_lt s0 v16) hk v16) (by rw [a0]; show [_, _, jI (nI (S 0) ^^^ nI (vv S i k)), _, _] = _; rw [jn_xor]; rfl) (fun q h2 hq => ?_)
          obtain ⟨rfl, rfl⟩ := hq
          refine pk_eq (q2 S i k).toNat 0 (fun q => ?_) (fun q => ?_) rfl rfl (by have := toNat_le (q2 S i k); omega) (by decide)
          · have e0 : q2 S i k = false := by cases hd : q2 S i k with
              | false => rfl
              | true => rw [hd] at q; cases q
            refine jv_to (V := V) (ih2 (by omega) _ _ (fun a h1 h2 => ?_)) (by rw [nI_add]) rfl rfl
            by_cases hak : a = k
            · subst hak; exact e0
            · exact hm a h1 (by omega)
          · have e0 : q2 S i k = true := by cases hd : q2 S i k with
              | true => rfl
              | false => rw [hd] at q; exact absurd rfl q
            refine jx_cal (S_Row_mend (i := i) (u := S 0 ^^^ vv S i k) hs hi (gf_xor_lt s0 v16)) (by rw [a0]; show [_, _, jI (nI (S 0) ^^^ nI (vv S i k))] = _; rw [jn_xor]) (fun q h2 hq => ?_)
            obtain ⟨f1, rfl, g1⟩ := hq
            refine jx_cal (S_Row_mend (i := k) (u := vv S i k) (g1.st _ _ _) hk v16) rfl (fun q h2 hq => ?_)
            obtain ⟨f2, rfl, g2⟩ := hq
            refine And.intro (Or.inr rfl) ?_
            have ef : fst (q2 S i) (i + 1) (14 - i) = some k := fst_some hik (by omega) (fun a h1 h2 => hm a h1 h2) e0
            have e : c2 S = some (i, k) := fs2_some (Nat.zero_le _) (by omega) (fun a _ ha => hn a ha) ef
            rw [e]
            refine And.intro rfl (Exists.intro f2 (And.intro (by rw [jx_st_st]) ?_))
            rw [nup_ne _ _ (show k ≠ i by omega)] at g2
            exact g2)
      refine rule (Nat.beq 12) 20 2 _ _ _ ?_
      refine pk_le 15 i (fun q => absurd q (by omega)) (fun _ => ?_)
      exact jv_to (V := V) (inner (i + 1) (by omega) (Nat.le_refl _) o2 o3 (fun a h1 h2 => by omega)) (by rw [nI_add]) rfl rfl)
  refine rule (Nat.beq 2) 10 0 _ _ _ ?_
  exact outer 0 (Nat.zero_le _) none none none (fun k hk => absurd hk (Nat.not_lt_zero _))
/-- what correct answers, and the row behind it -/
def corS (s : Nat → Nat) : Nat → Nat := sy s
def cor (s : Nat → Nat) : Int32 × (Nat → Nat) :=
  if sy s 0 ||| sy s 1 ||| sy s 2 ||| sy s 3 = 0 then (nI 0, s) else match c1 (sy s) with
    | some i => (nI 1, nup s i (s i ^^^ gf_qt (sy s 0) (gf_pw i)))
    | none => match c2 (sy s) with
      | some q => (nI 2, m2 (sy s) s q.1 q.2)
      | none => (-nI 1, s)
theorem S_Row_correct {w : Nat} {s : Nat → Nat} {h : jxH} (hs : AR (h 7 w) 15 16 s) : jx_MW 95 [jR 6 w] h (fun r h' => r = (cor s).1 ∧ ∃ f g, h' = jx_st (jx_st h 8 w g) 7 w f ∧ AR f 15 16 (cor s).2) := by
  refine jx_MW_by [some (jR 6 w)] (by decide) rfl (Nat.le_of_ble_eq_true rfl) (fun V rule => ?_)
  refine rule (fun _ => false) 40 0 _ _ _ ?_
  refine jx_cal (S_Row_findSums hs) rfl (fun q h2 hq => ?_)
  obtain ⟨g, rfl, hg⟩ := hq
  have hS := hg.st h 8 w
  have hs' : AR (jx_st h 8 w g 7 w) 15 16 s := hs
  have idn : jx_st h 8 w g = jx_st (jx_st h 8 w g) 7 w (h 7 w) := (jx_st_id (jx_st h 8 w g) 7 w).symm
  refine jx_cal (S_Row_isWord hS) rfl (fun q h2 hq => ?_)
  obtain ⟨rfl, rfl⟩ := hq
  by_cases c0 : sy s 0 ||| sy s 1 ||| sy s 2 ||| sy s 3 = 0
  · refine pk_eq 1 0 (fun q => absurd q (by decide)) (fun _ => ?_) (by simp [c0]) rfl
    have e : cor s = (nI 0, s) := by rw [cor, if_pos c0]
    rw [e]
    exact And.intro rfl (Exists.intro _ (Exists.intro g (And.intro idn hs)))
  · refine pk_eq 0 0 (fun _ => ?_) (fun q => absurd rfl q) (by simp [c0]) rfl
    refine jx_cal (S_Row_correctOne hs' hS) rfl (fun r h2 hq => ?_)
    cases e1 : c1 (sy s) with
    | some i =>
      rw [e1] at hq
      obtain ⟨rfl, f, rfl, hf⟩ := hq
      refine pk_eq 1 0 (fun q => absurd q (by decide)) (fun _ => ?_)
      have e : cor s = (nI 1, nup s i (s i ^^^ gf_qt (sy s 0) (gf_pw i))) := by rw [cor, if_neg c0, e1]
      rw [e]
      exact And.intro rfl (Exists.intro f (Exists.intro g (And.intro rfl hf)))
    | none =>
      rw [e1] at hq
      obtain ⟨rfl, rfl⟩ := hq
      refine pk_eq 0 0 (fun _ => ?_) (fun q => absurd rfl q)
      refine jx_cal (S_Row_correctTwo hs' hS) rfl (fun r h2 hq => ?_)
      cases e2 : c2 (sy s) with
      | some q =>
        rw [e2] at hq
        obtain ⟨rfl, f, rfl, hf⟩ := hq
        refine pk_eq 1 0 (fun q => absurd q (by decide)) (fun _ => ?_)
        have e : cor s = (nI 2, m2 (sy s) s q.1 q.2) := by rw [cor, if_neg c0, e1, e2]
        rw [e]
        exact And.intro rfl (Exists.intro f (Exists.intro g (And.intro rfl hf)))
      | none =>
        rw [e2] at hq
        obtain ⟨rfl, rfl⟩ := hq
        refine pk_eq 0 0 (fun _ => ?_) (fun q => absurd rfl q)
        have e : cor s = (-nI 1, s) := by rw [cor, if_neg c0, e1, e2]
        rw [e]
        exact And.intro rfl (Exists.intro _ (Exists.intro g (And.intro idn hs)))
end
section
/-! Row: completion, data, drawing, lifting. -/
theorem jn_dec {i : Nat} (h : 0 < i) : nI i + -nI (0 + 1) = nI (i - 1) := by
  obtain ⟨k, rfl⟩ : ∃ k, i = k + 1 := ⟨i - 1, by omega⟩
  have e : -nI (0 + 1) = (-1 : Int32) := by decide +kernel
  rw [e, pk_m1]
  rfl
def cq (s : Nat → Nat) : Nat → Nat × Nat × Nat × Nat
  | 0 => (0, 0, 0, 0)
  | n + 1 => ((cq s n).2.1 ^^^ gf_ml (s (14 - n) ^^^ (cq s n).1) 13, (cq s n).2.2.1 ^^^ gf_ml (s (14 - n) ^^^ (cq s n).1) 12, (cq s n).2.2.2 ^^^ gf_ml (s (14 - n) ^^^ (cq s n).1) 8, gf_ml (s (14 - n) ^^^ (cq s n).1) 7)
theorem cq_succ (s : Nat → Nat) (n : Nat) : cq s (n + 1) = ((cq s n).2.1 ^^^ gf_ml (s (14 - n) ^^^ (cq s n).1) 13, (cq s n).2.2.1 ^^^ gf_ml (s (14 - n) ^^^ (cq s n).1) 12, (cq s n).2.2.2 ^^^ gf_ml (s (14 - n) ^^^ (cq s n).1) 8, gf_ml (s (14 - n) ^^^ (cq s n).1) 7) := rfl
def cpn (s : Nat → Nat) (n : Nat) : Nat → Nat := fun k => if k = 0 then (cq s n).2.2.2 else if k = 1 then (cq s n).2.2.1 else if k = 2 then (cq s n).2.1 else if k = 3 then (cq s n).1 else s k
theorem cq_lt {s : Nat → Nat} (hs : ∀ k, k < 15 → s k < 16) : ∀ n, (cq s n).1 < 16 ∧ (cq s n).2.1 < 16 ∧ (cq s n).2.2.1 < 16 ∧ (cq s n).2.2.2 < 16
  | 0 => ⟨Nat.succ_pos 15, Nat.succ_pos 15, Nat.succ_pos 15, Nat.succ_pos 15⟩
  | n + 1 => by
    obtain ⟨h1, h2, h3, h4⟩ := cq_lt hs n
    exact ⟨gf_xor_lt h2 (gf_ml_lt _ _), gf_xor_lt h3 (gf_ml_lt _ _), gf_xor_lt h4 (gf_ml_lt _ _), gf_ml_lt _ _⟩
theorem S_Row_complete {w : Nat} {s : Nat → Nat} {h : jxH} (hs : AR (h 7 w) 15 16 s) : jx_MW 53 [jR 6 w] h (fun _ h' => ∃ f, h' = jx_st h 7 w f ∧ AR f 15 16 (cpn s 11)) := by
  refine jx_MW_by [some (jR 6 w), none, none, none] (by decide) rfl (Nat.le_of_ble_eq_true rfl) (fun V rule => ?_)
  have hb := fun n => cq_lt (s := s) (fun k hk => hs.lt hk) n
  have loop2 := jl_up (P := fun n => ∀ (o1 o2 : Option jxV) (f : Nat → Int32), AR f 15 16 (cpn s n) → V 23 [some (jR 6 w), some (jI (nI (14 - n))), o1, o2] [] (jx_st h 7 w f)) 11
    (by
      intro o1 o2 f hf
      refine rule (fun _ => false) 10 23 _ _ _ ?_
      refine pk_lt 3 4 (fun _ => ?_) (fun q => absurd q (by decide))
      exact Exists.intro f (And.intro rfl hf))
    (fun n hn ih => by
      intro o1 o2 f hf
      refine rule (Nat.beq 23) 120 23 _ _ _ ?_
      refine pk_lt (14 - n) 4 (fun q => absurd q (by omega)) (fun _ => ?_)
      refine Exists.intro (14 - n) (And.intro (And.intro (by omega) rfl) ?_)
      refine Exists.intro 3 (And.intro (And.intro (by decide) rfl) ?_)
      have e14 : cpn s n (14 - n) = s (14 - n) := by
        unfold cpn
        rw [if_neg (by omega), if_neg (by omega), if_neg (by omega), if_neg (by omega)]
      have v14 : f (14 - n) = nI (s (14 - n)) := by rw [hf.at (show 14 - n < 15 by omega), e14]
      have v3 : f 3 = nI (cq s n).1 := hf.at (show 3 < 15 by decide)
      have v2 : f 2 = nI (cq s n).2.1 := hf.at (show 2 < 15 by decide)
      have v1 : f 1 = nI (cq s n).2.2.1 := hf.at (show 1 < 15 by decide)
      have v0 : f 0 = nI (cq s n).2.2.2 := hf.at (show 0 < 15 by decide)
      rw [jx_st_same, v14, v3]
      obtain ⟨b1, b2, b3, b4⟩ := hb n
      have hc : s (14 - n) ^^^ (cq s n).1 < 16 := gf_xor_lt (hs.lt (by omega)) b1
      generalize hcd : s (14 - n) ^^^ (cq s n).1 = cr at hc
      have ecr : nI (s (14 - n)) ^^^ nI (cq s n).1 = nI cr := by rw [jn_xor, hcd]
      refine pk_le 3 0 (fun q => absurd q (by decide)) (fun _ => ?_)
      refine Exists.intro 2 (And.intro (And.intro (by decide) (by decide)) ?_)
      refine Exists.intro 3 (And.intro (And.intro (by decide) rfl) ?_)
      refine jx_cal (S_product (b := 13) hc (by decide)) (congrArg (fun z => [jI z, jI (nI 13)]) ecr) (fun q h2 hq => ?_)
      obtain ⟨rfl, rfl⟩ := hq
      refine Exists.intro 3 (And.intro (And.intro (by decide) rfl) ?_)
      rw [jx_st_same, jx_st_st, v2, ecr, jn_xor]
      refine pk_le 2 0 (fun q => absurd q (by decide)) (fun _ => ?_) (by decide)
      refine Exists.intro 1 (And.intro (And.intro (by decide) (by decide)) ?_)
      refine Exists.intro 2 (And.intro (And.intro (by decide) (by decide)) ?_)
      refine jx_cal (S_product (b := 12) hc (by decide)) rfl (fun q h2 hq => ?_)
      obtain ⟨rfl, rfl⟩ := hq
      refine Exists.intro 2 (And.intro (And.intro (by decide) (by decide)) ?_)
      rw [jx_st_same, jx_st_st, upd_ne _ _ (show 1 ≠ 3 by decide), v1, jn_xor]
      refine pk_le 1 0 (fun q => absurd q (by decide)) (fun _ => ?_) (by decide)
      refine Exists.intro 0 (And.intro (And.intro (by decide) (by decide)) ?_)
      refine Exists.intro 1 (And.intro (And.intro (by decide) (by decide)) ?_)
      refine jx_cal (S_product (b := 8) hc (by decide)) rfl (fun q h2 hq => ?_)
      obtain ⟨rfl, rfl⟩ := hq
      refine Exists.intro 1 (And.intro (And.intro (by decide) (by decide)) ?_)
      rw [jx_st_same, jx_st_st, upd_ne _ _ (show 0 ≠ 2 by decide), upd_ne _ _ (show 0 ≠ 3 by decide), v0, jn_xor]
      refine pk_le 0 0 (fun _ => ?_) (fun q => absurd q (by decide)) (by decide)
      refine Exists.intro 0 (And.intro (And.intro (by decide) rfl) ?_)
      refine jx_cal (S_product (b := 7) hc (by decide)) rfl (fun q h2 hq => ?_)
      obtain ⟨rfl, rfl⟩ := hq
      refine Exists.intro 0 (And.intro (And.intro (by decide) rfl) ?_)
      rw [jx_st_same, jx_st_st]
      have g := (((hf.put (k := 3) (gf_xor_lt b2 (gf_ml_lt cr 13))).put (k := 2) (gf_xor_lt b3 (gf_ml_lt cr 12))).put (k := 1) (gf_xor_lt b4 (gf_ml_lt cr 8))).put (k := 0) (gf_ml_lt cr 7)
      refine jv_to (V := V) (ih _ _ _ (g.congr (fun k hk => ?_))) (by rw [jn_dec (by omega), show 14 - n - 1 = 14 - (n + 1) by omega]) rfl rfl
      unfold cpn nup
      rw [cq_succ, hcd]
      by_cases k0 : k = 0
      · simp [k0]
      by_cases k1 : k = 1
      · simp [k1]
      by_cases k2 : k = 2
      · simp [k2]
      by_cases k3 : k = 3
      · simp [k3]
      simp [k0, k1, k2, k3])
  have loop1 := jl_up (P := fun j => ∀ f : Nat → Int32, AR f 15 16 (fun k => if k < j then 0 else s k) → V 2 [some (jR 6 w), some (jI (nI j)), none, none] [] (jx_st h 7 w f)) 4
    (by
      intro f hf
      refine rule (Nat.beq 23) 10 2 _ _ _ ?_
      refine pk_le 4 4 (fun _ => ?_) (fun q => absurd q (Nat.lt_irrefl _))
      refine loop2 0 (Nat.zero_le _) none none f (hf.congr (fun k hk => ?_))
      unfold cpn cq
      by_cases k0 : k = 0
      · simp [k0]
      by_cases k1 : k = 1
      · simp [k1]
      by_cases k2 : k = 2
      · simp [k2]
      by_cases k3 : k = 3
      · simp [k3]
      rw [if_neg k0, if_neg k1, if_neg k2, if_neg k3, if_neg (by omega)])
    (fun j hj ih => by
      intro f hf
      refine rule (Nat.beq 2) 20 2 _ _ _ ?_
      refine pk_le 4 j (fun q => absurd q (by omega)) (fun _ => ?_)
      refine Exists.intro j (And.intro (And.intro (by omega) rfl) ?_)
      have g := hf.put (k := j) (v := 0) (by decide)
      refine jv_to (V := V) (ih _ (g.congr (fun k hk => ?_))) (by rw [nI_add]) rfl (by rw [jx_st_same, jx_st_st])
      unfold nup
      by_cases hkj : k = j
      · subst hkj; simp
      · rw [if_neg hkj]
        exact if_iff ⟨fun q => by omega, fun q => by omega⟩)
  refine rule (Nat.beq 2) 10 0 _ _ _ ?_
  exact jv_to (V := V) (loop1 0 (Nat.zero_le _) (h 7 w) hs) rfl rfl (jx_st_id h 7 w).symm
theorem S_Row_takeData {w r : Nat} {s d : Nat → Nat} {h : jxH} (hs : AR (h 7 w) 15 16 s) (hd : AR (h 5 0) 44 16 d) (hr : r < 4) : jx_MW 57 [jR 6 w, jR 5 0, jI (nI r)] h (fun _ h' => ∃ f, h' = jx_st h 7 w f ∧ AR f 15 16 (fun k => if 4 ≤ k then d (11 * r + (k - 4)) else s k)) := by
  refine jx_MW_by [some (jR 6 w), some (jR 5 0), some (jI (nI r))] (by decide) rfl (Nat.le_of_ble_eq_true rfl) (fun V rule => ?_)
  refine rule (fun _ => false) 20 0 _ _ _ ?_
  refine Exists.intro (11 * r) (Exists.intro 4 (Exists.intro 11 (And.intro (And.intro (pk_mul 11 r) (And.intro rfl (And.intro rfl (And.intro (by omega) (by decide))))) ?_)))
  refine Exists.intro _ (And.intro rfl (fun k hk => ?_))
  by_cases h4 : 4 ≤ k
  · dsimp only
    rw [pk_cpy_in h4 (by omega), if_pos h4]
    exact hd (11 * r + (k - 4)) (by omega)
  · dsimp only
    rw [pk_cpy_out (Or.inl (by omega)), if_neg h4]
    exact hs k hk
theorem S_Row_giveData {w r : Nat} {s d : Nat → Nat} {h : jxH} (hs : AR (h 7 w) 15 16 s) (hr : r < 4) : jx_MW 55 [jR 6 w, jR 12 0, jI (nI r)] h (fun _ h' => ∃ f, h' = jx_st h 12 0 f ∧ ∀ k, f k = if 11 * r ≤ k ∧ k < 11 * r + 11 then nI (s (4 + (k - 11 * r))) else h 12 0 k) := by
  refine jx_MW_by [some (jR 6 w), some (jR 12 0), some (jI (nI r))] (by decide) rfl (Nat.le_of_ble_eq_true rfl) (fun V rule => ?_)
  refine rule (fun _ => false) 20 0 _ _ _ ?_
  refine Exists.intro 4 (Exists.intro (11 * r) (Exists.intro 11 (And.intro (And.intro rfl (And.intro (pk_mul 11 r) (And.intro rfl (And.intro (by decide) (by omega))))) ?_)))
  refine Exists.intro _ (And.intro rfl (fun k => ?_))
  by_cases h4 : 11 * r ≤ k ∧ k < 11 * r + 11
  · rw [pk_cpy_in h4.1 h4.2, if_pos h4]
    exact hs.at (by omega)
  · rw [pk_cpy_out (by omega), if_neg h4]
/-- the row s drawn as row r, its first n symbols -/
noncomputable def dr (D : Nat → Nat → Bool) (s : Nat → Nat) (r : Nat) : Nat → Nat → Nat → Bool
  | 0 => D
  | n + 1 => bD (dr D s r n) (4 * n + r) (s n)
theorem S_Row_draw {w p r : Nat} {s : Nat → Nat} {D : Nat → Nat → Bool} {h : jxH} (hs : AR (h 7 w) 15 16 s) (hL : LN (h 4 p) D) (hr : r < 4) : jx_MW 96 [jR 6 w, jR 3 p, jI (nI r)] h (fun _ h' => ∃ f, h' = jx_st h 4 p f ∧ LN f (dr D s r 15)) := by
  refine jx_MW_by [some (jR 6 w), some (jR 3 p), some (jI (nI r)), none] (by decide) rfl (Nat.le_of_ble_eq_true rfl) (fun V rule => ?_)
  have loop := jl_up (P := fun i => ∀ f : Nat → Int32, LN f (dr D s r i) → V 2 [some (jR 6 w), some (jR 3 p), some (jI (nI r)), some (jI (nI i))] [] (jx_st h 4 p f)) 15
    (by
      intro f hf
      refine rule (fun _ => false) 10 2 _ _ _ ?_
      refine pk_le 15 15 (fun _ => ?_) (fun q => absurd q (Nat.lt_irrefl _))
      exact Exists.intro f (And.intro rfl hf))
    (fun i hi ih => by
      intro f hf
      refine rule (Nat.beq 2) 30 2 _ _ _ ?_
      refine pk_le 15 i (fun q => absurd q (by omega)) (fun _ => ?_)
      refine Exists.intro i (And.intro (And.intro hi rfl) ?_)
      refine jx_cal (S_Sheet_drawSymbol (bl := 4 * i + r) (s := s i) (hf.st h p) (by omega) (hs.lt hi)) (by rw [show jx_st h 4 p f 7 w i = h 7 w i from rfl, hs.at hi, pk_mul, nI_add]) (fun q h2 hq => ?_)
      obtain ⟨f2, rfl, g⟩ := hq
      exact jv_to (V := V) (ih f2 g) (by rw [nI_add]) rfl (by rw [jx_st_st]))
  refine rule (Nat.beq 2) 10 0 _ _ _ ?_
  exact jv_to (V := V) (loop 0 (Nat.zero_le _) (h 4 p) hL) rfl rfl (jx_st_id h 4 p).symm
/-- the symbol in block b of the dots T -/
def rdS (T : Nat → Nat → Bool) (b : Nat) : Nat := sv (fun k => T (bX b + k % 2) (bY b + k / 2)) 4
theorem rdS_lt (T : Nat → Nat → Bool) (b : Nat) : rdS T b < 16 := sv_lt _ 4
theorem S_Row_lift {w p r t : Nat} {D : Nat → Nat → Bool} {h : jxH} (hL : LN (h 4 p) D) (hr : r < 4) (ht : t < 4) : jx_MW 97 [jR 6 w, jR 3 p, jI (nI r), jI (nI t)] h (fun _ h' => ∃ f, h' = jx_st h 7 w f ∧ AR f 15 16 (fun i => rdS (tu t D) (4 * i + r))) := by
  refine jx_MW_by [some (jR 6 w), some (jR 3 p), some (jI (nI r)), some (jI (nI t)), none] (by decide) rfl (Nat.le_of_ble_eq_true rfl) (fun V rule => ?_)
  have loop := jl_up (P := fun i => ∀ f : Nat → Int32, (∀ k, k < i → f k = nI (rdS (tu t D) (4 * k + r))) → V 3 [some (jR 6 w), some (jR 3 p), some (jI (nI r)), some (jI (nI t)), some (jI (nI i))] [] (jx_st h 7 w f)) 15
    (by
      intro f hf
      refine rule (fun _ => false) 10 3 _ _ _ ?_
      refine pk_le 15 15 (fun _ => ?_) (fun q => absurd q (Nat.lt_irrefl _))
      exact Exists.intro f (And.intro rfl (fun k hk => ⟨hf k hk, rdS_lt _ _⟩)))
    (fun i hi ih => by
      intro f hf
      refine rule (Nat.beq 3) 30 3 _ _ _ ?_
      refine pk_le 15 i (fun q => absurd q (by omega)) (fun _ => ?_)
      have hL' : LN (jx_st h 7 w f 4 p) D := hL
      refine jx_cal (S_Sheet_symbolAt (bl := 4 * i + r) hL' (by omega) ht) (by rw [pk_mul, nI_add]) (fun q h2 hq => ?_)
      obtain ⟨rfl, rfl⟩ := hq
      refine Exists.intro i (And.intro (And.intro hi rfl) ?_)
      refine jv_to (V := V) (ih (upd f i (nI (rdS (tu t D) (4 * i + r)))) (fun k hk => ?_)) (by rw [nI_add]) rfl (by rw [jx_st_same, jx_st_st]; rfl)
      by_cases hki : k = i
      · subst hki; exact upd_same _ _ _
      · rw [upd_ne _ _ hki]; exact hf k (by omega))
  refine rule (Nat.beq 3) 10 0 _ _ _ ?_
  exact jv_to (V := V) (loop 0 (Nat.zero_le _) (h 7 w) (fun k hk => absurd hk (Nat.not_lt_zero _))) rfl rfl (jx_st_id h 7 w).symm
end
section
/-! Scan. -/
theorem jx_sc {h : jxH} {k k' i i' : Nat} {f g : Nat → Int32} (hn : k ≠ k') : jx_st (jx_st h k i f) k' i' g = jx_st (jx_st h k' i' g) k i f := by
  funext a b
  unfold jx_st
  by_cases h1 : a = k
  · have h2 : ¬ a = k' := fun q => hn (h1.symm.trans q)
    simp [h1, h2, hn]
  · by_cases h2 : a = k'
    · simp [h2, Ne.symm hn]
    · simp [h1, h2]
theorem S_Scan_number {d : Nat → Nat} {h : jxH} (hd : AR (h 12 0) 44 16 d) : jx_MW 18 [jR 11 0] h (fun r h' => r = nI (d 0) ∧ h' = h) := by
  refine jx_MW_by [some (jR 11 0)] (by decide) rfl (Nat.le_of_ble_eq_true rfl) (fun V rule => ?_)
  refine rule (fun _ => false) 10 0 _ _ _ ?_
  refine Exists.intro 0 (And.intro (And.intro (by decide) rfl) ?_)
  exact And.intro (hd.at (by decide)) rfl
theorem S_Scan_needed {d : Nat → Nat} {h : jxH} (hd : AR (h 12 0) 44 16 d) : jx_MW 17 [jR 11 0] h (fun r h' => r = nI (d 1) ∧ h' = h) := by
  refine jx_MW_by [some (jR 11 0)] (by decide) rfl (Nat.le_of_ble_eq_true rfl) (fun V rule => ?_)
  refine rule (fun _ => false) 10 0 _ _ _ ?_
  refine Exists.intro 1 (And.intro (And.intro (by decide) rfl) ?_)
  exact And.intro (hd.at (by decide)) rfl
theorem S_Scan_length {d : Nat → Nat} {h : jxH} (hd : AR (h 12 0) 44 16 d) : jx_MW 16 [jR 11 0] h (fun r h' => r = nI (d 2 + 16 * d 3) ∧ h' = h) := by
  refine jx_MW_by [some (jR 11 0)] (by decide) rfl (Nat.le_of_ble_eq_true rfl) (fun V rule => ?_)
  refine rule (fun _ => false) 20 0 _ _ _ ?_
  refine Exists.intro 2 (And.intro (And.intro (by decide) rfl) ?_)
  refine Exists.intro 3 (And.intro (And.intro (by decide) rfl) ?_)
  refine And.intro ?_ rfl
  rw [hd.at (show 2 < 44 by decide), hd.at (show 3 < 44 by decide), pk_mul, nI_add]
theorem S_Scan_payload {d : Nat → Nat} {m : Nat} {h : jxH} (hd : AR (h 12 0) 44 16 d) (hm : m < 40) : jx_MW 19 [jR 11 0, jI (nI m)] h (fun r h' => r = nI (d (4 + m)) ∧ h' = h) := by
  refine jx_MW_by [some (jR 11 0), some (jI (nI m))] (by decide) rfl (Nat.le_of_ble_eq_true rfl) (fun V rule => ?_)
  refine rule (fun _ => false) 20 0 _ _ _ ?_
  refine Exists.intro (4 + m) (And.intro (And.intro (by omega) (nI_add 4 m)) ?_)
  exact And.intro (hd.at (by omega)) rfl
theorem S_Scan_errorsOf {r : Nat} {h : jxH} (hr : r < 4) : jx_MW 14 [jR 11 0, jI (nI r)] h (fun q h' => q = h 13 0 r ∧ h' = h) := by
  refine jx_MW_by [some (jR 11 0), some (jI (nI r))] (by decide) rfl (Nat.le_of_ble_eq_true rfl) (fun V rule => ?_)
  refine rule (fun _ => false) 20 0 _ _ _ ?_
  refine Exists.intro r (And.intro (And.intro hr rfl) ?_)
  exact And.intro rfl rfl
theorem S_Scan_forgetErrors {h : jxH} : jx_MW 15 [jR 11 0] h (fun _ h' => ∃ f, h' = jx_st h 13 0 f ∧ ∀ r, r < 4 → f r = -nI 2) := by
  refine jx_MW_by [some (jR 11 0), none] (by decide) rfl (Nat.le_of_ble_eq_true rfl) (fun V rule => ?_)
  have loop := jl_up (P := fun i => ∀ f : Nat → Int32, (∀ k, k < i → f k = -nI 2) → V 2 [some (jR 11 0), some (jI (nI i))] [] (jx_st h 13 0 f)) 4
    (by
      intro f hf
      refine rule (fun _ => false) 10 2 _ _ _ ?_
      refine pk_le 4 4 (fun _ => ?_) (fun q => absurd q (Nat.lt_irrefl _))
      exact Exists.intro f (And.intro rfl hf))
    (fun i hi ih => by
      intro f hf
      refine rule (Nat.beq 2) 20 2 _ _ _ ?_
      refine pk_le 4 i (fun q => absurd q (by omega)) (fun _ => ?_)
      refine Exists.intro i (And.intro (And.intro hi rfl) ?_)
      refine jv_to (V := V) (ih (upd f i (-nI 2)) (fun k hk => ?_)) (by rw [nI_add]) rfl (by rw [jx_st_same, jx_st_st])
      by_cases hki : k = i
      · subst hki; exact upd_same _ _ _
      · rw [upd_ne _ _ hki]; exact hf k (by omega))
  refine rule (Nat.beq 2) 10 0 _ _ _ ?_
  exact jv_to (V := V) (loop 0 (Nat.zero_le _) (h 13 0) (fun k hk => absurd hk (Nat.not_lt_zero _))) rfl rfl (jx_st_id h 13 0).symm
/-- the best turn so far and its faults, more turns tried -/
def ub (F : Nat → Nat) (t : Nat) : Nat → Nat × Nat
  | 0 => (t, F t)
  | n + 1 => if F ((t + (n + 1)) % 4) < (ub F t n).2 then ((t + (n + 1)) % 4, F ((t + (n + 1)) % 4)) else ub F t n
theorem ub_lt {F : Nat → Nat} {t : Nat} (ht : t < 4) : ∀ n, (ub F t n).1 < 4 ∧ (ub F t n).2 = F (ub F t n).1
  | 0 => ⟨ht, rfl⟩
  | n + 1 => by
    unfold ub
    split
    · exact ⟨Nat.mod_lt _ (by decide), rfl⟩
    · exact ub_lt ht n
def ftn (D : Nat → Nat → Bool) (t : Nat) : Nat := fts (tu t D) 17
theorem ftn_le (D : Nat → Nat → Bool) (t : Nat) : ftn D t ≤ 68 := fts_le _ 17
theorem S_Scan_uprightTurns {p t : Nat} {D : Nat → Nat → Bool} {h : jxH} (hL : LN (h 4 p) D) (ht : t < 4) : jx_MW 103 [jR 3 p, jI (nI t)] h (fun r h' => r = nI (ub (ftn D) t 3).1 ∧ h' = h) := by
  refine jx_MW_by [some (jR 3 p), some (jI (nI t)), none, none, none, none, none] (by decide) rfl (Nat.le_of_ble_eq_true rfl) (fun V rule => ?_)
  have loop := jl_up (P := fun n => ∀ o1 o2 : Option jxV, V 11 [some (jR 3 p), some (jI (nI t)), some (jI (nI (ub (ftn D) t n).1)), some (jI (nI (ub (ftn D) t n).2)), some (jI (nI (n + 1))), o1, o2] [] h) 3
    (by
      intro o1 o2
      refine rule (fun _ => false) 10 11 _ _ _ ?_
      refine pk_le 4 4 (fun _ => ?_) (fun q => absurd q (Nat.lt_irrefl _))
      exact And.intro rfl rfl)
    (fun n hn ih => by
      intro o1 o2
      refine rule (Nat.beq 11) 40 11 _ _ _ ?_
      refine pk_le 4 (n + 1) (fun q => absurd q (by omega)) (fun _ => ?_)
      refine And.intro (by decide) ?_
      have er : nI t + nI (n + 1) - (nI t + nI (n + 1)) / nI 4 * nI 4 = nI ((t + (n + 1)) % 4) := by
        rw [nI_add]
        exact jn_rem (by omega) (by decide) (by decide)
      refine jx_cal (S_Sheet_frameFaults (t := (t + (n + 1)) % 4) hL (Nat.mod_lt _ (by decide))) (congrArg (fun z => [jR 3 p, jI z]) er) (fun q h2 hq => ?_)
      obtain ⟨rfl, rfl⟩ := hq
      have b1 := ftn_le D ((t + (n + 1)) % 4)
      have b2 := (ub_lt (F := ftn D) ht n).2
      have b3 := ftn_le D (ub (ftn D) t n).1
      refine pk_le (ub (ftn D) t n).2 (ftn D ((t + (n + 1)) % 4)) (fun q => ?_) (fun q => ?_) rfl rfl (by omega) (by omega)
      · refine jv_to (V := V) (ih (some (jI (nI ((t + (n + 1)) % 4)))) (some (jI (nI (ftn D ((t + (n + 1)) % 4)))))) ?_ rfl rfl
        rw [er, nI_add, show ub (ftn D) t (n + 1) = ub (ftn D) t n by rw [ub, if_neg (by omega)]]
        rfl
      · refine jv_to (V := V) (ih (some (jI (nI ((t + (n + 1)) % 4)))) (some (jI (nI (ftn D ((t + (n + 1)) % 4)))))) ?_ rfl rfl
        rw [er, nI_add, show ub (ftn D) t (n + 1) = ((t + (n + 1)) % 4, ftn D ((t + (n + 1)) % 4)) by rw [ub, if_pos q]]
        rfl)
  refine rule (Nat.beq 11) 20 0 _ _ _ ?_
  refine jx_cal (S_Sheet_frameFaults hL ht) rfl (fun q h2 hq => ?_)
  obtain ⟨rfl, rfl⟩ := hq
  exact loop 0 (by decide) none none
/-- whether the data tell a page -/
def tp (d : Nat → Nat) : Bool := decide (1 ≤ d 1) && (decide (d 1 ≤ 4) && (decide (d 0 ≤ d 1 + 1) && (decide (20 * d 1 < d 2 + 16 * d 3 + 20) && decide (d 2 + 16 * d 3 ≤ 20 * d 1))))
theorem S_Scan_tellsPage {d : Nat → Nat} {h : jxH} (hd : AR (h 12 0) 44 16 d) : jx_MW 60 [jR 11 0] h (fun r h' => r = nI (tp d).toNat ∧ h' = h) := by
  refine jx_MW_by [some (jR 11 0), none] (by decide) rfl (Nat.le_of_ble_eq_true rfl) (fun V rule => ?_)
  refine rule (fun _ => false) 60 0 _ _ _ ?_
  have d0 := hd.lt (show 0 < 44 by decide)
  have d1 := hd.lt (show 1 < 44 by decide)
  have d2 := hd.lt (show 2 < 44 by decide)
  have d3 := hd.lt (show 3 < 44 by decide)
  refine jx_cal (S_Scan_needed hd) rfl (fun q h2 hq => ?_)
  obtain ⟨rfl, rfl⟩ := hq
  refine jx_cal (S_Scan_needed hd) rfl (fun q h2 hq => ?_)
  obtain ⟨rfl, rfl⟩ := hq
  refine pk_lt (d 1) 1 (fun q => ?_) (fun q1 => ?_)
  · exact And.intro (Or.inl rfl) (And.intro (by simp [tp, show ¬ 1 ≤ d 1 by omega]) rfl)
  refine jx_cal (S_Scan_needed hd) rfl (fun q h2 hq => ?_)
  obtain ⟨rfl, rfl⟩ := hq
  refine pk_lt 4 (d 1) (fun q => ?_) (fun q2 => ?_)
  · exact And.intro (Or.inl rfl) (And.intro (by simp [tp, show ¬ d 1 ≤ 4 by omega]) rfl)
  refine jx_cal (S_Scan_number hd) rfl (fun q h2 hq => ?_)
  obtain ⟨rfl, rfl⟩ := hq
  refine jx_cal (S_Scan_needed hd) rfl (fun q h2 hq => ?_)
  obtain ⟨rfl, rfl⟩ := hq
  refine pk_lt (d 1 + 1) (d 0) (fun q => ?_) (fun q3 => ?_) (nI_add _ _) rfl
  · exact And.intro (Or.inl rfl) (And.intro (by simp [tp, show ¬ d 0 ≤ d 1 + 1 by omega]) rfl)
  refine jx_cal (S_Scan_length hd) rfl (fun q h2 hq => ?_)
  obtain ⟨rfl, rfl⟩ := hq
  have em : nI 20 * nI (d 1) - nI 20 = nI (20 * d 1 - 20) := by rw [pk_mul]; exact pk_sub (by omega)
  refine pk_le (d 2 + 16 * d 3) (20 * d 1 - 20) (fun q => ?_) (fun q4 => ?_) rfl em
  · exact And.intro (Or.inl rfl) (And.intro (by simp [tp, show ¬ 20 * d 1 < d 2 + 16 * d 3 + 20 by omega]) rfl)
  refine jx_cal (S_Scan_length hd) rfl (fun q h2 hq => ?_)
  obtain ⟨rfl, rfl⟩ := hq
  refine pk_lt (20 * d 1) (d 2 + 16 * d 3) (fun q => ?_) (fun q5 => ?_) (pk_mul _ _) rfl
  · exact And.intro (Or.inl rfl) (And.intro (by simp [tp, show ¬ d 2 + 16 * d 3 ≤ 20 * d 1 by omega]) rfl)
  · exact And.intro (Or.inr rfl) (And.intro (by simp [tp, q1, q2, q3, q5, show 20 * d 1 < d 2 + 16 * d 3 + 20 by omega]) rfl)
-- reading the rows
abbrev hS4 (h : jxH) (a b e d : Nat → Int32) : jxH := jx_st (jx_st (jx_st (jx_st h 7 1 a) 8 1 b) 13 0 e) 12 0 d
theorem hS4_7 (h : jxH) (a b e d f : Nat → Int32) : jx_st (hS4 h a b e d) 7 1 f = hS4 h f b e d := by
  unfold hS4
  rw [jx_sc (show 12 ≠ 7 by decide), jx_sc (show 13 ≠ 7 by decide), jx_sc (show 8 ≠ 7 by decide), jx_st_st]
theorem hS4_8 (h : jxH) (a b e d f : Nat → Int32) : jx_st (hS4 h a b e d) 8 1 f = hS4 h a f e d := by
  unfold hS4
  rw [jx_sc (show 12 ≠ 8 by decide), jx_sc (show 13 ≠ 8 by decide), jx_st_st]
theorem hS4_13 (h : jxH) (a b e d f : Nat → Int32) : jx_st (hS4 h a b e d) 13 0 f = hS4 h a b f d := by
  unfold hS4
  rw [jx_sc (show 12 ≠ 13 by decide), jx_st_st]
theorem hS4_12 (h : jxH) (a b e d f : Nat → Int32) : jx_st (hS4 h a b e d) 12 0 f = hS4 h a b e f := by
  unfold hS4
  rw [jx_st_st]
theorem hS4_id (h : jxH) : hS4 h (h 7 1) (h 8 1) (h 13 0) (h 12 0) = h := by
  unfold hS4
  rw [jx_st_id, jx_st_id, jx_st_id, jx_st_id]
/-- row r as read, page turned t times -/
def rw9 (D : Nat → Nat → Bool) (t r : Nat) : Nat → Nat := fun i => rdS (tu t D) (4 * i + r)
/-- whether the first n rows are words or can be made ones -/
def alw (D : Nat → Nat → Bool) (t : Nat) : Nat → Bool
  | 0 => true
  | n + 1 => alw D t n && decide (¬ (cor (rw9 D t n)).1 = -nI 1)
def rdd (D : Nat → Nat → Bool) (t : Nat) : Nat → Nat := fun k => (cor (rw9 D t (k / 11))).2 (4 + k % 11)
theorem S_Scan_readRows {p t : Nat} {D : Nat → Nat → Bool} {h : jxH} (hL : LN (h 4 p) D) (ht : t < 4) : jx_MW 102 [jR 11 0, jR 3 p, jI (nI t)] h (fun r h' => r = nI (alw D t 4).toNat ∧ ∃ a b e d, h' = hS4 h a b e d ∧ (∀ r, r < 4 → e r = (cor (rw9 D t r)).1) ∧ AR d 44 16 (rdd D t)) := by
  refine jx_MW_by [some (jR 11 0), some (jR 3 p), some (jI (nI t)), none, none] (by decide) rfl (Nat.le_of_ble_eq_true rfl) (fun V rule => ?_)
  have loop := jl_up (P := fun n => ∀ (a b e d : Nat → Int32), (∀ r, r < n → e r = (cor (rw9 D t r)).1) → (∀ k, k < 11 * n → d k = nI (rdd D t k) ∧ rdd D t k < 16) → V 5 [some (jR 11 0), some (jR 3 p), some (jI (nI t)), some (jI (nI (alw D t n).toNat)), some (jI (nI n))] [] (hS4 h a b e d)) 4
    (by
      intro a b e d he hd
      refine rule (fun _ => false) 10 5 _ _ _ ?_
      refine pk_le 4 4 (fun _ => ?_) (fun q => absurd q (Nat.lt_irrefl _))
      have b01 : nI (alw D t 4).toNat = nI 0 ∨ nI (alw D t 4).toNat = nI 1 := by cases alw D t 4; exact Or.inl rfl; exact Or.inr rfl
      exact And.intro b01 (And.intro rfl (Exists.intro a (Exists.intro b (Exists.intro e (Exists.intro d (And.intro rfl (And.intro he (fun k hk => hd k hk)))))))))
    (fun n hn ih => by
      intro a b e d he hd
      refine rule (Nat.beq 5) 60 5 _ _ _ ?_
      refine pk_le 4 n (fun q => absurd q (by omega)) (fun _ => ?_)
      have hL' : LN (hS4 h a b e d 4 p) D := hL
      refine jx_cal (S_Row_lift (w := 1) (r := n) hL' hn ht) rfl (fun q h2 hq => ?_)
      obtain ⟨a1, rfl, ga1⟩ := hq
      rw [hS4_7]
      have ga1' : AR (hS4 h a1 b e d 7 1) 15 16 (rw9 D t n) := ga1
      refine jx_cal (S_Row_correct ga1') rfl (fun q h2 hq => ?_)
      obtain ⟨rfl, a2, b2, rfl, ga2⟩ := hq
      rw [hS4_8, hS4_7]
      refine Exists.intro n (And.intro (And.intro hn rfl) ?_)
      rw [hS4_13]
      have ga2' : AR (hS4 h a2 b2 (upd e n (cor (rw9 D t n)).1) d 7 1) 15 16 (cor (rw9 D t n)).2 := ga2
      refine jx_cal (S_Row_giveData (d := fun _ => 0) (r := n) ga2' hn) rfl (fun q h2 hq => ?_)
      obtain ⟨d2, rfl, gd2⟩ := hq
      rw [hS4_12]
      have he2 : ∀ r, r < n + 1 → upd e n (cor (rw9 D t n)).1 r = (cor (rw9 D t r)).1 := fun r hr => by
        by_cases hrn : r = n
        · subst hrn; exact upd_same _ _ _
        · rw [upd_ne _ _ hrn]; exact he r (by omega)
      have hd2 : ∀ k, k < 11 * (n + 1) → d2 k = nI (rdd D t k) ∧ rdd D t k < 16 := fun k hk => by
        by_cases h9 : 11 * n ≤ k ∧ k < 11 * n + 11
        · have e1 : k / 11 = n := by omega
          have e2 : k - 11 * n = k % 11 := by omega
          rw [gd2 k, if_pos h9, e2]
          have e3 : rdd D t k = (cor (rw9 D t n)).2 (4 + k % 11) := by rw [rdd, e1]
          rw [e3]
          exact ⟨rfl, ga2.lt (by omega)⟩
        · rw [gd2 k, if_neg h9]
          exact hd k (by omega)
      have leaf := fun (c : Bool) (hc : alw D t (n + 1) = c) => jv_to (V := V) (ih a2 b2 (upd e n (cor (rw9 D t n)).1) d2 he2 hd2) (show [some (jR 11 0), some (jR 3 p), some (jI (nI t)), some (jI (nI c.toNat)), some (jI (nI n + nI 1))] = _ by rw [nI_add, hc]) rfl rfl
      refine pk_eq (alw D t n).toNat 0 (fun q => ?_) (fun q => ?_) rfl rfl (by have := toNat_le (alw D t n); omega) (by decide)
      · have e0 : alw D t n = false := by cases hd9 : alw D t n with
          | false => rfl
          | true => rw [hd9] at q; cases q
        exact leaf false (by rw [alw, e0]; rfl)
      · have e0 : alw D t n = true := by cases hd9 : alw D t n with
          | true => rfl
          | false => rw [hd9] at q; exact absurd rfl q
        refine Exists.intro n (And.intro (And.intro hn rfl) ?_)
        refine br_c (fun q1 => ?_) (fun q1 => ?_)
        · have ev : upd (hS4 h a2 b2 e d 13 0) n (cor (rw9 D t n)).1 n = (cor (rw9 D t n)).1 := upd_same _ _ _
          have q2 : (cor (rw9 D t n)).1 = -nI 1 := ev.symm.trans q1
          exact leaf false (by rw [alw, e0, q2]; decide)
        · have ev : upd (hS4 h a2 b2 e d 13 0) n (cor (rw9 D t n)).1 n = (cor (rw9 D t n)).1 := upd_same _ _ _
          have q2 : ¬ (cor (rw9 D t n)).1 = -nI 1 := fun z => q1 (ev.trans z)
          exact leaf true (by rw [alw, e0]; simp [q2]))
  refine rule (Nat.beq 5) 10 0 _ _ _ ?_
  exact jv_to (V := V) (loop 0 (Nat.zero_le _) (h 7 1) (h 8 1) (h 13 0) (h 12 0) (fun r hr => absurd hr (Nat.not_lt_zero _)) (fun k hk => absurd hk (Nat.not_lt_zero _))) rfl rfl (hS4_id h).symm
/-- what read does: with nothing readable, or the rows and what they tell -/
def rdT (D : Nat → Nat → Bool) (t : Nat) : Nat := (ub (ftn D) t 3).1
theorem S_Scan_read {p t : Nat} {D : Nat → Nat → Bool} {h : jxH} (hL : LN (h 4 p) D) (ht : t < 4) : jx_MW 109 [jR 11 0, jR 3 p, jI (nI t)] h (fun r h' => ∃ a b e d, h' = hS4 h a b e d ∧
    ((8 < ftn D (rdT D t) ∧ r = nI 0 ∧ (∀ r, r < 4 → e r = -nI 2)) ∨ (ftn D (rdT D t) ≤ 8 ∧ r = nI (alw D (rdT D t) 4 && tp (rdd D (rdT D t))).toNat ∧ (∀ r, r < 4 → e r = (cor (rw9 D (rdT D t) r)).1) ∧ AR d 44 16 (rdd D (rdT D t))))) := by
  refine jx_MW_by [some (jR 11 0), some (jR 3 p), some (jI (nI t)), none] (by decide) rfl (Nat.le_of_ble_eq_true rfl) (fun V rule => ?_)
  refine rule (fun _ => false) 40 0 _ _ _ ?_
  refine jx_cal (S_Scan_uprightTurns hL ht) rfl (fun q h2 hq => ?_)
  obtain ⟨rfl, rfl⟩ := hq
  have hT : rdT D t < 4 := (ub_lt ht 3).1
  refine jx_cal (S_Sheet_frameFaults (t := rdT D t) hL hT) rfl (fun q h2 hq => ?_)
  obtain ⟨rfl, rfl⟩ := hq
  have b1 := ftn_le D (rdT D t)
  refine pk_le (ftn D (rdT D t)) 8 (fun q => ?_) (fun q => ?_) rfl rfl (by omega) (by decide)
  · refine jx_cal (S_Scan_readRows (t := rdT D t) hL hT) rfl (fun r h3 hq => ?_)
    obtain ⟨rfl, a, b, e, d, rfl, he, hd⟩ := hq
    refine pk_eq (alw D (rdT D t) 4).toNat 0 (fun q1 => ?_) (fun q1 => ?_) rfl rfl (by have := toNat_le (alw D (rdT D t) 4); omega) (by decide)
    · have e0 : alw D (rdT D t) 4 = false := by cases hd9 : alw D (rdT D t) 4 with
        | false => rfl
        | true => rw [hd9] at q1; cases q1
      refine And.intro (Or.inl rfl) (Exists.intro a (Exists.intro b (Exists.intro e (Exists.intro d (And.intro rfl (Or.inr (And.intro q (And.intro ?_ (And.intro he hd)))))))))
      rw [e0]
      rfl
    · have e0 : alw D (rdT D t) 4 = true := by cases hd9 : alw D (rdT D t) 4 with
        | true => rfl
        | false => rw [hd9] at q1; exact absurd rfl q1
      have hd' : AR (hS4 h2 a b e d 12 0) 44 16 (rdd D (rdT D t)) := hd
      refine jx_cal (S_Scan_tellsPage hd') rfl (fun r h3 hq => ?_)
      obtain ⟨rfl, rfl⟩ := hq
      refine pk_eq (tp (rdd D (rdT D t))).toNat 0 (fun q2 => ?_) (fun q2 => ?_) rfl rfl (by have := toNat_le (tp (rdd D (rdT D t))); omega) (by decide)
      · have e1 : tp (rdd D (rdT D t)) = false := by cases hd9 : tp (rdd D (rdT D t)) with
          | false => rfl
          | true => rw [hd9] at q2; cases q2
        refine And.intro (Or.inl rfl) (Exists.intro a (Exists.intro b (Exists.intro e (Exists.intro d (And.intro rfl (Or.inr (And.intro q (And.intro ?_ (And.intro he hd)))))))))
        rw [e0, e1]
        rfl
      · have e1 : tp (rdd D (rdT D t)) = true := by cases hd9 : tp (rdd D (rdT D t)) with
          | true => rfl
          | false => rw [hd9] at q2; exact absurd rfl q2
        refine And.intro (Or.inr rfl) (Exists.intro a (Exists.intro b (Exists.intro e (Exists.intro d (And.intro rfl (Or.inr (And.intro q (And.intro ?_ (And.intro he hd)))))))))
        rw [e0, e1]
        rfl
  · refine jx_cal S_Scan_forgetErrors rfl (fun r h3 hq => ?_)
    obtain ⟨f, rfl, hf⟩ := hq
    refine And.intro (Or.inl rfl) (Exists.intro (h2 7 1) (Exists.intro (h2 8 1) (Exists.intro f (Exists.intro (h2 12 0) (And.intro ?_ (Or.inl (And.intro q (And.intro rfl hf))))))))
    rw [← hS4_13 h2 (h2 7 1) (h2 8 1) (h2 13 0) (h2 12 0) f, hS4_id]
end
section
/-! Reader. -/
def BA (f : Nat → Int32) (n : Nat) (b : Nat → Bool) : Prop := ∀ k, k < n → f k = nI (b k).toNat
def bup (b : Nat → Bool) (k : Nat) (v : Bool) : Nat → Bool := fun j => if j = k then v else b j
theorem BA.put {f : Nat → Int32} {n : Nat} {b : Nat → Bool} (h : BA f n b) {k : Nat} (v : Bool) : BA (upd f k (nI v.toNat)) n (bup b k v) := by
  intro j hj
  by_cases hjk : j = k
  · subst hjk
    rw [upd_same]
    simp [bup]
  · rw [upd_ne _ _ hjk, h j hj]
    simp [bup, hjk]
theorem BA.st {f : Nat → Int32} {n : Nat} {b : Nat → Bool} (h : jxH) (k p : Nat) (hf : BA f n b) : BA (jx_st h k p f k p) n b := by
  rw [jx_st_same]
  exact hf
theorem tn0 {b : Bool} (h : b.toNat = 0) : b = false := by cases b <;> simp_all
theorem tn1 {b : Bool} (h : ¬ b.toNat = 0) : b = true := by cases b <;> simp_all
theorem S_Rd_rebuiltLength {h : jxH} : jx_MW 25 [jR 14 0] h (fun r h' => r = h 14 0 6 ∧ h' = h) := by
  refine jx_MW_by [some (jR 14 0)] (by decide) rfl (Nat.le_of_ble_eq_true rfl) (fun V rule => ?_)
  refine rule (fun _ => false) 10 0 _ _ _ ?_
  exact And.intro rfl rfl
theorem S_Rd_rebuiltByte {i : Nat} {h : jxH} (hi : i < 80) : jx_MW 24 [jR 14 0, jI (nI i)] h (fun r h' => r = h 18 0 i ∧ h' = h) := by
  refine jx_MW_by [some (jR 14 0), some (jI (nI i))] (by decide) rfl (Nat.le_of_ble_eq_true rfl) (fun V rule => ?_)
  refine rule (fun _ => false) 10 0 _ _ _ ?_
  refine Exists.intro i (And.intro (And.intro hi rfl) ?_)
  exact And.intro rfl rfl
theorem S_Rd_lacking {kp : Nat} {h : jxH} (hk : h 14 0 2 = nI kp) (hk9 : kp < 100) : jx_MW 22 [jR 14 0] h (fun r h' => r = (if kp = 0 then -nI 1 else h 14 0 3 + nI 2 - nI kp) ∧ h' = h) := by
  refine jx_MW_by [some (jR 14 0)] (by decide) rfl (Nat.le_of_ble_eq_true rfl) (fun V rule => ?_)
  refine rule (fun _ => false) 20 0 _ _ _ ?_
  refine pk_eq kp 0 (fun q => ?_) (fun q => ?_) hk rfl
  · exact And.intro (by rw [if_pos q]) rfl
  · exact And.intro (by rw [if_neg q, hk]) rfl
theorem S_Rd_hasEnough {kp nd : Nat} {h : jxH} (hk : h 14 0 2 = nI kp) (hn : h 14 0 3 = nI nd) (hk9 : kp < 100) (hn9 : nd < 100) : jx_MW 21 [jR 14 0] h (fun r h' => r = nI (decide (0 < kp ∧ nd ≤ kp)).toNat ∧ h' = h) := by
  refine jx_MW_by [some (jR 14 0)] (by decide) rfl (Nat.le_of_ble_eq_true rfl) (fun V rule => ?_)
  refine rule (fun _ => false) 20 0 _ _ _ ?_
  refine pk_le kp 0 (fun q => ?_) (fun q => ?_) hk rfl
  · exact And.intro (Or.inl rfl) (And.intro (by simp [show ¬ 0 < kp by omega]) rfl)
  · refine pk_lt kp nd (fun q1 => ?_) (fun q1 => ?_) hk hn
    · exact And.intro (Or.inl rfl) (And.intro (by simp [show ¬ nd ≤ kp by omega]) rfl)
    · exact And.intro (Or.inr rfl) (And.intro (by simp [q, q1]) rfl)
def nl (b : Nat → Bool) (nd a : Nat) : Nat := (fst (fun k => !b k) a (nd - a)).getD nd
theorem nl_le (b : Nat → Bool) (nd a : Nat) : nl b nd a ≤ nd := by
  unfold nl
  cases h : fst (fun k => !b k) a (nd - a) with
  | none => exact Nat.le_refl _
  | some j =>
    obtain ⟨h1, h2, -⟩ := fst_lt h
    show j ≤ nd
    omega
theorem S_Rd_nextLost {nd a : Nat} {b : Nat → Bool} {h : jxH} (hn : h 14 0 3 = nI nd) (hb : BA (h 17 0) 6 b) (hn6 : nd ≤ 4) (ha : a ≤ 6) : jx_MW 23 [jR 14 0, jI (nI a)] h (fun r h' => r = nI (nl b nd a) ∧ h' = h) := by
  refine jx_MW_by [some (jR 14 0), some (jI (nI a)), none] (by decide) rfl (Nat.le_of_ble_eq_true rfl) (fun V rule => ?_)
  by_cases hna : nd ≤ a
  · refine rule (fun _ => false) 20 0 _ _ _ ?_
    refine pk_le nd a (fun _ => ?_) (fun q => absurd q (by omega)) hn rfl
    refine And.intro ?_ rfl
    rw [hn, nl, show nd - a = 0 by omega]
    rfl
  · have loop := jl_up (P := fun i => a ≤ i → (∀ k, a ≤ k → k < i → b k = true) → V 2 [some (jR 14 0), some (jI (nI a)), some (jI (nI i))] [] h) nd
      (by
        intro _ hk
        refine rule (fun _ => false) 20 2 _ _ _ ?_
        refine pk_le nd nd (fun _ => ?_) (fun q => absurd q (Nat.lt_irrefl _)) hn rfl
        refine And.intro ?_ rfl
        rw [hn, nl, fst_none (fun k h1 h2 => by rw [hk k h1 (by omega)]; rfl)]
        rfl)
      (fun i hi ih => by
        intro hai hk
        refine rule (Nat.beq 2) 20 2 _ _ _ ?_
        refine pk_le nd i (fun q => absurd q (by omega)) (fun _ => ?_) hn rfl
        refine Exists.intro i (And.intro (And.intro (by omega) rfl) ?_)
        refine pk_eq (b i).toNat 0 (fun q => ?_) (fun q => ?_) (hb i (by omega)) rfl (by have := toNat_le (b i); omega) (by decide)
        · refine And.intro ?_ rfl
          rw [nl, fst_some hai (by omega) (fun k h1 h2 => by rw [hk k h1 h2]; rfl) (by rw [tn0 q]; rfl)]
          rfl
        · refine jv_to (V := V) (ih (by omega) (fun k h1 h2 => ?_)) (by rw [nI_add]) rfl rfl
          by_cases hki : k = i
          · subst hki; exact tn1 q
          · exact hk k h1 (by omega))
    refine rule (Nat.beq 2) 10 0 _ _ _ ?_
    exact loop a (by omega) (Nat.le_refl _) (fun k h1 h2 => by omega)
/-- the column m, 0 where a page isn't kept -/
def fc (b : Nat → Bool) (pl : Nat → Nat → Nat) (m : Nat) : Nat → Nat := fun k => if b k = true then pl k m else 0
theorem S_Rd_fillColumn {m : Nat} {b : Nat → Bool} {pl : Nat → Nat → Nat} {h : jxH} (hb : BA (h 17 0) 6 b) (hp : ∀ p, p < 6 → AR (h 16 p) 40 16 (pl p)) (hm : m < 40) : jx_MW 61 [jR 14 0, jI (nI m)] h (fun _ h' => ∃ f, h' = jx_st h 10 1 f ∧ AR f 6 16 (fc b pl m)) := by
  refine jx_MW_by [some (jR 14 0), some (jI (nI m)), none] (by decide) rfl (Nat.le_of_ble_eq_true rfl) (fun V rule => ?_)
  have loop := jl_up (P := fun i => ∀ f : Nat → Int32, (∀ k, k < i → f k = nI (fc b pl m k) ∧ fc b pl m k < 16) → V 2 [some (jR 14 0), some (jI (nI m)), some (jI (nI i))] [] (jx_st h 10 1 f)) 6
    (by
      intro f hf
      refine rule (fun _ => false) 10 2 _ _ _ ?_
      refine pk_le 6 6 (fun _ => ?_) (fun q => absurd q (Nat.lt_irrefl _))
      exact Exists.intro f (And.intro rfl hf))
    (fun i hi ih => by
      intro f hf
      refine rule (Nat.beq 2) 40 2 _ _ _ ?_
      refine pk_le 6 i (fun q => absurd q (by omega)) (fun _ => ?_)
      refine Exists.intro i (And.intro (And.intro hi rfl) ?_)
      have fin : ∀ v, v = fc b pl m i → v < 16 → jx_MW 13 [jR 9 1, jI (nI i), jI (nI v)] (jx_st h 10 1 f) (fun _ h' => V 2 [some (jR 14 0), some (jI (nI m)), some (jI (nI i + nI 1))] [] h') := by
        intro v hv hv16
        refine jx_cal (S_Col_set hi) rfl (fun q h2 hq => ?_)
        subst hq
        refine jv_to (V := V) (ih (upd f i (nI v)) (fun k hk => ?_)) (by rw [nI_add]) rfl (by rw [jx_st_same, jx_st_st])
        by_cases hki : k = i
        · subst hki
          rw [upd_same, ← hv]
          exact ⟨rfl, hv16⟩
        · rw [upd_ne _ _ hki]
          exact hf k (by omega)
      refine pk_eq (b i).toNat 0 (fun q => ?_) (fun q => ?_) (hb i hi) rfl (by have := toNat_le (b i); omega) (by decide)
      · exact fin 0 (by rw [fc, tn0 q]; rfl) (by decide)
      · refine Exists.intro i (And.intro (And.intro hi rfl) ?_)
        refine Exists.intro m (And.intro (And.intro hm rfl) ?_)
        refine jx_cal (fin (pl i m) (by rw [fc, tn1 q]; rfl) ((hp i hi).lt hm)) ?_ (fun _ _ z => z)
        rw [show jx_st h 10 1 f 16 i m = h 16 i m from rfl, (hp i hi).at hm])
  refine rule (Nat.beq 2) 10 0 _ _ _ ?_
  exact jv_to (V := V) (loop 0 (Nat.zero_le _) (h 10 1) (fun k hk => absurd hk (Nat.not_lt_zero _))) rfl rfl (jx_st_id h 10 1).symm
/-- the column with its lost symbols brought back -/
def rst (s : Nat → Nat) (nd a c : Nat) (b : Nat → Bool) : Nat → Nat :=
  if c < nd then nup (nup s c (gf_s2 (s nd ^^^ xs s nd) (s (nd + 1) ^^^ xs (wt s) nd) (gf_pw a) (gf_pw c))) a ((s nd ^^^ xs s nd) ^^^ gf_s2 (s nd ^^^ xs s nd) (s (nd + 1) ^^^ xs (wt s) nd) (gf_pw a) (gf_pw c))
  else if a < nd then (if b nd = true then nup s a (s nd ^^^ xs s nd) else nup s a (gf_qt (s (nd + 1) ^^^ xs (wt s) nd) (gf_pw a)))
  else s
theorem S_Rd_restoreLost {nd a c : Nat} {s : Nat → Nat} {b : Nat → Bool} {h : jxH} (hn : h 14 0 3 = nI nd) (hb : BA (h 17 0) 6 b) (hs : AR (h 10 1) 6 16 s) (hn4 : nd ≤ 4) (ha : a ≤ nd) (hc : c ≤ nd) : jx_MW 98 [jR 14 0, jI (nI a), jI (nI c)] h (fun _ h' => ∃ f, h' = jx_st h 10 1 f ∧ AR f 6 16 (rst s nd a c b)) := by
  refine jx_MW_by [some (jR 14 0), some (jI (nI a)), some (jI (nI c))] (by decide) rfl (Nat.le_of_ble_eq_true rfl) (fun V rule => ?_)
  refine rule (fun _ => false) 40 0 _ _ _ ?_
  refine pk_le nd c (fun q1 => ?_) (fun q1 => ?_) hn rfl
  · refine pk_le nd a (fun q2 => ?_) (fun q2 => ?_) hn rfl
    · refine pk_le nd a (fun _ => ?_) (fun q => absurd q (by omega)) hn rfl
      refine Exists.intro (h 10 1) (And.intro (jx_st_id h 10 1).symm ?_)
      rw [rst, if_neg (by omega), if_neg (by omega)]
      exact hs
    · refine Exists.intro nd (And.intro (And.intro (by omega) hn) ?_)
      refine pk_eq (b nd).toNat 0 (fun q => ?_) (fun q => ?_) (hb nd (by omega)) rfl (by have := toNat_le (b nd); omega) (by decide)
      · refine pk_le nd a (fun q9 => absurd q9 (by omega)) (fun _ => ?_) hn rfl
        refine jx_cal (S_Col_restoreByWeighted (n := nd) (l := a) hs hn4 (by omega)) (by rw [hn]) (fun r h2 hq => ?_)
        obtain ⟨f, rfl, hf⟩ := hq
        refine Exists.intro f (And.intro rfl ?_)
        rw [rst, if_neg (by omega), if_pos q2, if_neg (by rw [tn0 q]; decide)]
        exact hf
      · refine jx_cal (S_Col_restoreByPlain (n := nd) (l := a) hs hn4 (by omega)) (by rw [hn]) (fun r h2 hq => ?_)
        obtain ⟨f, rfl, hf⟩ := hq
        refine Exists.intro f (And.intro rfl ?_)
        rw [rst, if_neg (by omega), if_pos q2, if_pos (tn1 q)]
        exact hf
  · refine jx_cal (S_Col_restoreTwo (n := nd) (a := a) (b := c) hs hn4 (by omega) (by omega)) (by rw [hn]) (fun r h2 hq => ?_)
    obtain ⟨f, rfl, hf⟩ := hq
    refine Exists.intro f (And.intro rfl ?_)
    rw [rst, if_pos q1]
    exact hf
theorem S_Rd_storeSymbols {nd m : Nat} {s : Nat → Nat} {h : jxH} (hn : h 14 0 3 = nI nd) (hs : AR (h 10 1) 6 16 s) (hn4 : nd ≤ 4) (hm : m < 40) : jx_MW 63 [jR 14 0, jI (nI m)] h (fun _ h' => ∃ f, h' = jx_st h 18 0 f ∧ ∀ k, k < 80 → f k = if k / 20 < nd ∧ k % 20 = m / 2 then (if m % 2 = 0 then nI (s (k / 20)) else h 18 0 k + nI 16 * nI (s (k / 20))) else h 18 0 k) := by
  refine jx_MW_by [some (jR 14 0), some (jI (nI m)), none, none] (by decide) rfl (Nat.le_of_ble_eq_true rfl) (fun V rule => ?_)
  have loop := jl_up (P := fun i => ∀ (o : Option jxV) (f : Nat → Int32), (∀ k, k < 80 → f k = if k / 20 < i ∧ k % 20 = m / 2 then (if m % 2 = 0 then nI (s (k / 20)) else h 18 0 k + nI 16 * nI (s (k / 20))) else h 18 0 k) → V 2 [some (jR 14 0), some (jI (nI m)), some (jI (nI i)), o] [] (jx_st h 18 0 f)) nd
    (by
      intro o f hf
      refine rule (fun _ => false) 10 2 _ _ _ ?_
      refine pk_le nd nd (fun _ => ?_) (fun q => absurd q (Nat.lt_irrefl _)) hn rfl
      exact Exists.intro f (And.intro rfl hf))
    (fun i hi ih => by
      intro o f hf
      refine rule (Nat.beq 2) 50 2 _ _ _ ?_
      refine pk_le nd i (fun q => absurd q (by omega)) (fun _ => ?_) hn rfl
      refine And.intro (by decide) ?_
      refine And.intro (by decide) ?_
      have ep : nI i * nI 20 + nI m / nI 2 = nI (i * 20 + m / 2) := by rw [pk_mul, pk_div (by omega) (by decide) (by decide), nI_add]
      have hsx : AR (jx_st h 18 0 f 10 1) 6 16 s := hs
      refine pk_eq (m % 2) 0 (fun q => ?_) (fun q => ?_) (jn_rem (by omega) (by decide) (by decide)) rfl
      · refine jx_cal (S_Col_get hsx (show i < 6 by omega)) rfl (fun r h2 hq => ?_)
        obtain ⟨rfl, rfl⟩ := hq
        refine Exists.intro (i * 20 + m / 2) (And.intro (And.intro (by omega) ep) ?_)
        refine jv_to (V := V) (ih (some (jI (nI (i * 20 + m / 2)))) (upd f (i * 20 + m / 2) (nI (s i))) (fun k hk => ?_)) (by rw [ep, nI_add]) rfl (by rw [jx_st_same, jx_st_st])
        by_cases hki : k = i * 20 + m / 2
        · subst hki
          rw [upd_same, if_pos (by omega), if_pos q, show (i * 20 + m / 2) / 20 = i by omega]
        · rw [upd_ne _ _ hki, hf k hk]
          exact if_iff ⟨fun z => by omega, fun z => by omega⟩
      · refine Exists.intro (i * 20 + m / 2) (And.intro (And.intro (by omega) ep) ?_)
        refine jx_cal (S_Col_get hsx (show i < 6 by omega)) rfl (fun r h2 hq => ?_)
        obtain ⟨rfl, rfl⟩ := hq
        refine Exists.intro (i * 20 + m / 2) (And.intro (And.intro (by omega) ep) ?_)
        have hold : f (i * 20 + m / 2) = h 18 0 (i * 20 + m / 2) := by rw [hf _ (by omega), if_neg (by omega)]
        refine jv_to (V := V) (ih (some (jI (nI (i * 20 + m / 2)))) (upd f (i * 20 + m / 2) (f (i * 20 + m / 2) + nI 16 * nI (s i))) (fun k hk => ?_)) (by rw [ep, nI_add]) rfl (by rw [jx_st_same, jx_st_st])
        by_cases hki : k = i * 20 + m / 2
        · subst hki
          rw [upd_same, if_pos (by omega), if_neg q, hold, show (i * 20 + m / 2) / 20 = i by omega]
        · rw [upd_ne _ _ hki, hf k hk]
          exact if_iff ⟨fun z => by omega, fun z => by omega⟩)
  refine rule (Nat.beq 2) 10 0 _ _ _ ?_
  exact jv_to (V := V) (loop 0 (Nat.zero_le _) none (h 18 0) (fun k hk => by rw [if_neg (fun z => absurd z.1 (Nat.not_lt_zero _))])) rfl rfl (jx_st_id h 18 0).symm
end
section
/-! Reader: putting together, forgetting, keeping. -/
/-- the column m, whole again -/
def col (b : Nat → Bool) (pl : Nat → Nat → Nat) (nd m : Nat) : Nat → Nat := rst (fc b pl m) nd (nl b nd 0) (nl b nd (nl b nd 0 + 1)) b
theorem S_Rd_putTogether {nd : Nat} {b : Nat → Bool} {pl : Nat → Nat → Nat} {h : jxH} (hn : h 14 0 3 = nI nd) (hb : BA (h 17 0) 6 b) (hp : ∀ p, p < 6 → AR (h 16 p) 40 16 (pl p)) (hn4 : nd ≤ 4) : jx_MW 104 [jR 14 0] h (fun q h' => q = h 14 0 4 ∧ ∃ c r, h' = jx_st (jx_st (jx_st h 10 1 c) 18 0 r) 14 0 (upd (h 14 0) 6 (h 14 0 4)) ∧ ∀ k, k < 80 → k / 20 < nd → r k = nI (col b pl nd (2 * (k % 20)) (k / 20)) + nI 16 * nI (col b pl nd (2 * (k % 20) + 1) (k / 20))) := by
  refine jx_MW_by [some (jR 14 0), none, none, none] (by decide) rfl (Nat.le_of_ble_eq_true rfl) (fun V rule => ?_)
  have h1 := nl_le b nd 0
  have h2 := nl_le b nd (nl b nd 0 + 1)
  have loop := jl_up (P := fun m => ∀ c r : Nat → Int32, (∀ k, k < 80 → k / 20 < nd → (2 * (k % 20) + 1 < m → r k = nI (col b pl nd (2 * (k % 20)) (k / 20)) + nI 16 * nI (col b pl nd (2 * (k % 20) + 1) (k / 20))) ∧ (m = 2 * (k % 20) + 1 → r k = nI (col b pl nd (2 * (k % 20)) (k / 20)))) → V 16 [some (jR 14 0), some (jI (nI (nl b nd 0))), some (jI (nI (nl b nd (nl b nd 0 + 1)))), some (jI (nI m))] [] (jx_st (jx_st h 10 1 c) 18 0 r)) 40
    (by
      intro c r hr
      refine rule (fun _ => false) 20 16 _ _ _ ?_
      refine pk_le 40 40 (fun _ => ?_) (fun q => absurd q (Nat.lt_irrefl _))
      exact And.intro rfl (Exists.intro c (Exists.intro r (And.intro rfl (fun k hk hkn => (hr k hk hkn).1 (by omega))))))
    (fun m hm ih => by
      intro c r hr
      refine rule (Nat.beq 16) 30 16 _ _ _ ?_
      refine pk_le 40 m (fun q => absurd q (by omega)) (fun _ => ?_)
      have hb' : BA (jx_st (jx_st h 10 1 c) 18 0 r 17 0) 6 b := hb
      refine jx_cal (S_Rd_fillColumn (pl := pl) (m := m) hb' hp hm) rfl (fun q h3 hq => ?_)
      obtain ⟨c1, rfl, hc1⟩ := hq
      rw [jx_sc (show 18 ≠ 10 by decide), jx_st_st]
      have hc1' : AR (jx_st (jx_st h 10 1 c1) 18 0 r 10 1) 6 16 (fc b pl m) := hc1
      have hb1 : BA (jx_st (jx_st h 10 1 c1) 18 0 r 17 0) 6 b := hb
      have hn1 : jx_st (jx_st h 10 1 c1) 18 0 r 14 0 3 = nI nd := hn
      refine jx_cal (S_Rd_restoreLost hn1 hb1 hc1' hn4 h1 h2) rfl (fun q h3 hq => ?_)
      obtain ⟨c2, rfl, hc2⟩ := hq
      rw [jx_sc (show 18 ≠ 10 by decide), jx_st_st]
      have hc2' : AR (jx_st (jx_st h 10 1 c2) 18 0 r 10 1) 6 16 (col b pl nd m) := hc2
      have hn2 : jx_st (jx_st h 10 1 c2) 18 0 r 14 0 3 = nI nd := hn
      refine jx_cal (S_Rd_storeSymbols hn2 hc2' hn4 hm) rfl (fun q h3 hq => ?_)
      obtain ⟨r2, rfl, hr2⟩ := hq
      rw [jx_st_st]
      refine jv_to (V := V) (ih c2 r2 (fun k hk hkn => ?_)) (by rw [nI_add]) rfl rfl
      have e2 := hr2 k hk
      have e3 : jx_st (jx_st h 10 1 c2) 18 0 r 18 0 k = r k := rfl
      rw [e3] at e2
      obtain ⟨g1, g2⟩ := hr k hk hkn
      refine ⟨fun z => ?_, fun z => ?_⟩
      · by_cases hm1 : m = 2 * (k % 20) + 1
        · rw [e2, if_pos ⟨hkn, by omega⟩, if_neg (by omega), g2 hm1, ← hm1]
        · rw [e2, if_neg (by omega)]
          exact g1 (by omega)
      · rw [e2, if_pos ⟨hkn, by omega⟩, if_pos (by omega), show m = 2 * (k % 20) by omega])
  refine rule (Nat.beq 16) 20 0 _ _ _ ?_
  refine jx_cal (S_Rd_nextLost (a := 0) hn hb hn4 (by decide)) rfl (fun q h3 hq => ?_)
  obtain ⟨rfl, rfl⟩ := hq
  refine jx_cal (S_Rd_nextLost (a := nl b nd 0 + 1) hn hb hn4 (by omega)) (by rw [nI_add]) (fun q h3 hq => ?_)
  obtain ⟨rfl, rfl⟩ := hq
  exact jv_to (V := V) (loop 0 (Nat.zero_le _) (h3 10 1) (h3 18 0) (fun k hk hkn => ⟨fun z => absurd z (Nat.not_lt_zero _), fun z => by omega⟩)) rfl rfl (by rw [jx_st_id, jx_st_id])
theorem S_Rd_forget {h : jxH} : jx_MW 20 [jR 14 0] h (fun r h' => r = h 14 0 2 ∧ ∃ f, h' = jx_st (jx_st h 14 0 (upd (upd (h 14 0) 2 (nI 0)) 6 (nI 0))) 17 0 f ∧ BA f 6 (fun _ => false)) := by
  refine jx_MW_by [some (jR 14 0), none, none] (by decide) rfl (Nat.le_of_ble_eq_true rfl) (fun V rule => ?_)
  have loop := jl_up (P := fun i => ∀ f : Nat → Int32, (∀ k, k < i → f k = nI 0) → V 12 [some (jR 14 0), some (jI (h 14 0 2)), some (jI (nI i))] [] (jx_st (jx_st h 14 0 (upd (h 14 0) 2 (nI 0))) 17 0 f)) 6
    (by
      intro f hf
      refine rule (fun _ => false) 20 12 _ _ _ ?_
      refine pk_le 6 6 (fun _ => ?_) (fun q => absurd q (Nat.lt_irrefl _))
      refine And.intro rfl (Exists.intro f (And.intro ?_ (fun k hk => hf k hk)))
      rw [jx_sc (show 17 ≠ 14 by decide), jx_st_st]
      rfl)
    (fun i hi ih => by
      intro f hf
      refine rule (Nat.beq 12) 20 12 _ _ _ ?_
      refine pk_le 6 i (fun q => absurd q (by omega)) (fun _ => ?_)
      refine Exists.intro i (And.intro (And.intro hi (And.intro rfl (Or.inl rfl))) ?_)
      refine jv_to (V := V) (ih (upd f i (nI 0)) (fun k hk => ?_)) (by rw [nI_add]) rfl (by rw [jx_st_same, jx_st_st])
      by_cases hki : k = i
      · subst hki; exact upd_same _ _ _
      · rw [upd_ne _ _ hki]; exact hf k (by omega))
  refine rule (Nat.beq 12) 20 0 _ _ _ ?_
  exact jv_to (V := V) (loop 0 (Nat.zero_le _) (h 17 0) (fun k hk => absurd hk (Nat.not_lt_zero _))) rfl rfl (jx_st_id (jx_st h 14 0 (upd (h 14 0) 2 (nI 0))) 17 0).symm
/-- the heap behind store -/
def hst (h : jxH) (n : Nat) (f : Nat → Int32) : jxH := jx_st (jx_st (jx_st h 16 n f) 17 0 (upd (h 17 0) n (nI 1))) 14 0 (upd (h 14 0) 2 (h 14 0 2 + nI 1))
theorem S_Rd_store {d : Nat → Nat} {h : jxH} (hd : AR (h 12 0) 44 16 d) (h0 : d 0 < 6) : jx_MW 62 [jR 14 0, jR 11 0] h (fun _ h' => ∃ f, h' = hst h (d 0) f ∧ AR f 40 16 (fun m => d (4 + m))) := by
  refine jx_MW_by [some (jR 14 0), some (jR 11 0), none, none] (by decide) rfl (Nat.le_of_ble_eq_true rfl) (fun V rule => ?_)
  have loop := jl_up (P := fun i => ∀ f : Nat → Int32, (∀ k, k < i → f k = nI (d (4 + k))) → V 7 [some (jR 14 0), some (jR 11 0), some (jI (nI (d 0))), some (jI (nI i))] [] (jx_st h 16 (d 0) f)) 40
    (by
      intro f hf
      refine rule (fun _ => false) 30 7 _ _ _ ?_
      refine pk_le 40 40 (fun _ => ?_) (fun q => absurd q (Nat.lt_irrefl _))
      refine Exists.intro (d 0) (And.intro (And.intro h0 (And.intro rfl (Or.inr rfl))) ?_)
      exact Exists.intro f (And.intro rfl (fun k hk => ⟨hf k hk, hd.lt (by omega)⟩)))
    (fun i hi ih => by
      intro f hf
      refine rule (Nat.beq 7) 30 7 _ _ _ ?_
      refine pk_le 40 i (fun q => absurd q (by omega)) (fun _ => ?_)
      refine Exists.intro (d 0) (And.intro (And.intro h0 rfl) ?_)
      have hd' : AR (jx_st h 16 (d 0) f 12 0) 44 16 d := hd
      refine jx_cal (S_Scan_payload hd' hi) rfl (fun q h2 hq => ?_)
      obtain ⟨rfl, rfl⟩ := hq
      refine Exists.intro i (And.intro (And.intro hi rfl) ?_)
      refine jv_to (V := V) (ih (upd f i (nI (d (4 + i)))) (fun k hk => ?_)) (by rw [nI_add]) rfl (by rw [jx_st_same, jx_st_st])
      by_cases hki : k = i
      · subst hki; exact upd_same _ _ _
      · rw [upd_ne _ _ hki]; exact hf k (by omega))
  refine rule (Nat.beq 7) 20 0 _ _ _ ?_
  refine jx_cal (S_Scan_number hd) rfl (fun q h2 hq => ?_)
  obtain ⟨rfl, rfl⟩ := hq
  exact jv_to (V := V) (loop 0 (Nat.zero_le _) (h2 16 (d 0)) (fun k hk => absurd hk (Nat.not_lt_zero _))) rfl rfl (jx_st_id h2 16 (d 0)).symm
/-- the heap where the first page's numbers are taken over -/
def htk (h : jxH) (kp : Nat) (d : Nat → Nat) : jxH := if kp = 0 then jx_st h 14 0 (upd (upd (h 14 0) 3 (nI (d 1))) 4 (nI (d 2 + 16 * d 3))) else h
theorem S_Rd_keep {kp nd ln : Nat} {d : Nat → Nat} {b : Nat → Bool} {h : jxH} (hk : h 14 0 2 = nI kp) (hn : h 14 0 3 = nI nd) (hl : h 14 0 4 = nI ln) (hb : BA (h 17 0) 6 b) (hd : AR (h 12 0) 44 16 d) (h0 : d 0 < 6) (hk9 : kp < 100) (hn9 : nd < 1000) (hl9 : ln < 1000) : jx_MW 88 [jR 14 0, jR 11 0] h (fun r h' =>
    (¬ kp = 0 ∧ ¬ (d 1 = nd ∧ d 2 + 16 * d 3 = ln) ∧ r = nI 0 ∧ h' = h) ∨
    ((kp = 0 ∨ (d 1 = nd ∧ d 2 + 16 * d 3 = ln)) ∧ r = nI 1 ∧ (b (d 0) = true → h' = htk h kp d) ∧ (b (d 0) = false → ∃ f, h' = hst (htk h kp d) (d 0) f ∧ AR f 40 16 (fun m => d (4 + m))))) := by
  refine jx_MW_by [some (jR 14 0), some (jR 11 0)] (by decide) rfl (Nat.le_of_ble_eq_true rfl) (fun V rule => ?_)
  have l1 := hd.lt (show 1 < 44 by decide)
  have l2 := hd.lt (show 2 < 44 by decide)
  have l3 := hd.lt (show 3 < 44 by decide)
  have tail : ∀ (h1 : jxH), h1 = htk h kp d → (kp = 0 ∨ (d 1 = nd ∧ d 2 + 16 * d 3 = ln)) → BA (h1 17 0) 6 b → AR (h1 12 0) 44 16 d → V 47 [some (jR 14 0), some (jR 11 0)] [] h1 := by
    intro h1 e1 hc hb1 hd1
    refine rule (fun _ => false) 30 47 _ _ _ ?_
    refine jx_cal (S_Scan_number hd1) rfl (fun q h2 hq => ?_)
    obtain ⟨rfl, rfl⟩ := hq
    refine Exists.intro (d 0) (And.intro (And.intro h0 rfl) ?_)
    refine pk_eq (b (d 0)).toNat 0 (fun q => ?_) (fun q => ?_) (hb1 (d 0) h0) rfl (by have := toNat_le (b (d 0)); omega) (by decide)
    · refine jx_cal (S_Rd_store hd1 h0) rfl (fun q2 h3 hq => ?_)
      obtain ⟨f, rfl, hf⟩ := hq
      refine And.intro (Or.inr rfl) (Or.inr (And.intro hc (And.intro rfl (And.intro (fun z => ?_) (fun _ => ?_)))))
      · rw [tn0 q] at z; cases z
      · exact Exists.intro f (And.intro (by rw [e1]) hf)
    · refine And.intro (Or.inr rfl) (Or.inr (And.intro hc (And.intro rfl (And.intro (fun _ => e1) (fun z => ?_)))))
      rw [tn1 q] at z; cases z
  refine rule (Nat.beq 47) 60 0 _ _ _ ?_
  refine pk_eq kp 0 (fun q => ?_) (fun q => ?_) hk rfl
  · refine jx_cal (S_Scan_needed hd) rfl (fun r h2 hq => ?_)
    obtain ⟨rfl, rfl⟩ := hq
    have hd1 : AR (jx_st h2 14 0 (upd (h2 14 0) 3 (nI (d 1))) 12 0) 44 16 d := hd
    refine jx_cal (S_Scan_length hd1) rfl (fun r h3 hq => ?_)
    obtain ⟨rfl, rfl⟩ := hq
    have hd2 : AR (jx_st (jx_st h2 14 0 (upd (h2 14 0) 3 (nI (d 1)))) 14 0 (upd (jx_st h2 14 0 (upd (h2 14 0) 3 (nI (d 1))) 14 0) 4 (nI (d 2 + 16 * d 3))) 12 0) 44 16 d := hd
    refine jx_cal (S_Scan_needed hd2) rfl (fun r h3 hq => ?_)
    obtain ⟨rfl, rfl⟩ := hq
    refine pk_eq (d 1) (d 1) (fun _ => ?_) (fun z => absurd rfl z) rfl rfl
    refine jx_cal (S_Scan_length hd2) rfl (fun r h3 hq => ?_)
    obtain ⟨rfl, rfl⟩ := hq
    refine pk_eq (d 2 + 16 * d 3) (d 2 + 16 * d 3) (fun _ => ?_) (fun z => absurd rfl z) rfl rfl
    exact tail _ (by rw [htk, if_pos q, jx_st_same, jx_st_st]) (Or.inl q) hb hd2
  · refine jx_cal (S_Scan_needed hd) rfl (fun r h3 hq => ?_)
    obtain ⟨rfl, rfl⟩ := hq
    refine pk_eq (d 1) nd (fun q1 => ?_) (fun q1 => ?_) rfl hn
    · refine jx_cal (S_Scan_length hd) rfl (fun r h4 hq => ?_)
      obtain ⟨rfl, rfl⟩ := hq
      refine pk_eq (d 2 + 16 * d 3) ln (fun q2 => ?_) (fun q2 => ?_) rfl hl
      · exact tail _ (by rw [htk, if_neg q]) (Or.inr ⟨q1, q2⟩) hb hd
      · exact And.intro (Or.inl rfl) (Or.inl (And.intro q (And.intro (fun z => q2 z.2) (And.intro rfl rfl))))
    · exact And.intro (Or.inl rfl) (Or.inl (And.intro q (And.intro (fun z => q1 z.1) (And.intro rfl rfl))))
end
section
/-! DotVault: its own methods. A method that may throw is said by its body alone (jx_BD): E where it returns, TH where it throws. -/
def jx_BD (κ : Nat) (as : List jxV) (h : jxH) (E : Int32 → jxH → Prop) (TH : Nat → jxH → Prop) : Prop :=
  ∀ V : Nat → jxL → List jxV → jxH → Prop, (∀ (cut : Nat → Bool) (n pc : Nat) (ls : jxL) (st : List jxV) (h : jxH), jx_blk κ cut V E TH n pc ls st h → V pc ls st h) → V 0 (as.map some ++ List.replicate (jx_mx κ - as.length) none) [] h
theorem jx_BD_by {κ : Nat} {as : List jxV} {h : jxH} {E : Int32 → jxH → Prop} {TH : Nat → jxH → Prop} (ls : jxL) (hls : as.map some ++ List.replicate (jx_mx κ - as.length) none = ls)
    (body : ∀ V : Nat → jxL → List jxV → jxH → Prop, (∀ (cut : Nat → Bool) (n pc : Nat) (ls : jxL) (st : List jxV) (h : jxH), jx_blk κ cut V E TH n pc ls st h → V pc ls st h) → V 0 ls [] h) : jx_BD κ as h E TH := by
  intro V rule
  rw [hls]
  exact body V rule
theorem S_V_wipe {h : jxH} : jx_MW 3 [jR 0 0] h (fun r h' => r = h 0 0 1 ∧ h' = jx_st h 0 0 (upd (h 0 0) 1 (nI 0))) := by
  refine jx_MW_by [some (jR 0 0), none] (by decide) rfl (Nat.le_of_ble_eq_true rfl) (fun V rule => ?_)
  refine rule (fun _ => false) 20 0 _ _ _ ?_
  exact And.intro rfl rfl
theorem S_V_missing {kp : Nat} {h : jxH} (hk : h 14 0 2 = nI kp) (hk9 : kp < 100) : jx_MW 47 [jR 0 0] h (fun r h' => r = (if kp = 0 then -nI 1 else h 14 0 3 + nI 2 - nI kp) ∧ h' = h) := by
  refine jx_MW_by [some (jR 0 0)] (by decide) rfl (Nat.le_of_ble_eq_true rfl) (fun V rule => ?_)
  refine rule (fun _ => false) 20 0 _ _ _ ?_
  exact jx_cal (S_Rd_lacking hk hk9) rfl (fun r h' z => z)
theorem S_V_reset {h : jxH} : jx_MW 49 [jR 0 0] h (fun r h' => r = h 14 0 2 ∧ ∃ f, h' = jx_st (jx_st h 14 0 (upd (upd (h 14 0) 2 (nI 0)) 6 (nI 0))) 17 0 f ∧ BA f 6 (fun _ => false)) := by
  refine jx_MW_by [some (jR 0 0)] (by decide) rfl (Nat.le_of_ble_eq_true rfl) (fun V rule => ?_)
  refine rule (fun _ => false) 20 0 _ _ _ ?_
  exact jx_cal S_Rd_forget rfl (fun r h' z => z)
/-- a page that is printed -/
def hp9 (pg : Int32) (P : Nat) : Bool := decide (¬ pg < 0) && decide (pg < nI P)
theorem hp9_t {pg : Int32} {P : Nat} (hP : P < 2 ^ 31) (h : hp9 pg P = true) : ∃ j, j < P ∧ pg = nI j := by
  simp only [hp9, Bool.and_eq_true, decide_eq_true_eq] at h
  obtain ⟨j, hj, rfl⟩ := nI_of h.1
  exact ⟨j, (nI_ltI hj hP).mp h.2, rfl⟩
theorem hp9_n {j P : Nat} (hj : j < P) (hP : P < 2 ^ 31) : hp9 (nI j) P = true := by
  simp only [hp9, Bool.and_eq_true, decide_eq_true_eq]
  exact ⟨nI_pos (by omega), (nI_ltI (by omega) hP).mpr hj⟩
theorem S_V_hasPage {pg : Int32} {P : Nat} {h : jxH} (hP : h 0 0 3 = nI P) : jx_MW 1 [jR 0 0, jI pg] h (fun r h' => r = nI (hp9 pg P).toNat ∧ h' = h) := by
  refine jx_MW_by [some (jR 0 0), some (jI pg)] (by decide) rfl (Nat.le_of_ble_eq_true rfl) (fun V rule => ?_)
  refine rule (fun _ => false) 20 0 _ _ _ ?_
  refine br_c (fun q => ?_) (fun q => ?_)
  · exact And.intro (Or.inl rfl) (And.intro (by simp [hp9, q]) rfl)
  · refine br_c (fun q1 => ?_) (fun q1 => ?_)
    · have q2 : ¬ pg < nI P := by rw [← hP]; exact Int32.not_lt.mpr q1
      exact And.intro (Or.inl rfl) (And.intro (by simp [hp9, q2]) rfl)
    · have q2 : pg < nI P := by rw [← hP]; exact Int32.not_le.mp q1
      exact And.intro (Or.inr rfl) (And.intro (by simp [hp9, q, q2]) rfl)
def hd9 (pg x y : Int32) (P : Nat) : Bool := hp9 pg P && (hp9 x 18 && hp9 y 18)
theorem S_V_hasDot {pg x y : Int32} {P : Nat} {h : jxH} (hP : h 0 0 3 = nI P) : jx_MW 46 [jR 0 0, jI pg, jI x, jI y] h (fun r h' => r = nI (hd9 pg x y P).toNat ∧ h' = h) := by
  refine jx_MW_by [some (jR 0 0), some (jI pg), some (jI x), some (jI y)] (by decide) rfl (Nat.le_of_ble_eq_true rfl) (fun V rule => ?_)
  refine rule (fun _ => false) 40 0 _ _ _ ?_
  refine jx_cal (S_V_hasPage hP) rfl (fun r h2 hq => ?_)
  obtain ⟨rfl, rfl⟩ := hq
  refine pk_eq (hp9 pg P).toNat 0 (fun q => ?_) (fun q => ?_) rfl rfl (by have := toNat_le (hp9 pg P); omega) (by decide)
  · exact And.intro (Or.inl rfl) (And.intro (by simp [hd9, tn0 q]) rfl)
  refine br_c (fun q1 => ?_) (fun q1 => ?_)
  · exact And.intro (Or.inl rfl) (And.intro (by simp [hd9, hp9, q1]) rfl)
  refine br_c (fun q2 => ?_) (fun q2 => ?_)
  · have e : ¬ x < nI 18 := Int32.not_lt.mpr q2
    exact And.intro (Or.inl rfl) (And.intro (by simp [hd9, hp9, e]) rfl)
  refine br_c (fun q3 => ?_) (fun q3 => ?_)
  · exact And.intro (Or.inl rfl) (And.intro (by simp [hd9, hp9, q3]) rfl)
  refine br_c (fun q4 => ?_) (fun q4 => ?_)
  · have e : ¬ y < nI 18 := Int32.not_lt.mpr q4
    exact And.intro (Or.inl rfl) (And.intro (by simp [hd9, hp9, e]) rfl)
  · have e1 : x < nI 18 := Int32.not_le.mp q2
    have e2 : y < nI 18 := Int32.not_le.mp q4
    have e3 : hp9 x 18 = true := by simp [hp9, q1, e1]
    have e4 : hp9 y 18 = true := by simp [hp9, q3, e2]
    exact And.intro (Or.inr rfl) (And.intro (by rw [hd9, tn1 q, e3, e4]; rfl) rfl)
/-- symbol m of the document's page k -/
def ds (dc : Nat → Nat) (len k m : Nat) : Nat := if k * 20 + m / 2 < len then (if m % 2 = 0 then dc (k * 20 + m / 2) % 16 else dc (k * 20 + m / 2) / 16) else 0
theorem ds_lt {dc : Nat → Nat} {len k m : Nat} (hl : len ≤ 80) (hdc : ∀ i, i < 80 → dc i < 256) : ds dc len k m < 16 := by
  unfold ds
  split
  · rename_i h1
    have h2 := hdc (k * 20 + m / 2) (by omega)
    split
    · exact Nat.mod_lt _ (by decide)
    · omega
  · decide
theorem S_V_documentSymbol {k m len : Nat} {dc : Nat → Nat} {h : jxH} (hl : h 0 0 1 = nI len) (hl9 : len ≤ 80) (hd : AR (h 1 0) 80 256 dc) (hk : k < 10) (hm : m < 40) : jx_MW 0 [jR 0 0, jI (nI k), jI (nI m)] h (fun r h' => r = nI (ds dc len k m) ∧ h' = h) := by
  refine jx_MW_by [some (jR 0 0), some (jI (nI k)), some (jI (nI m)), none] (by decide) rfl (Nat.le_of_ble_eq_true rfl) (fun V rule => ?_)
  refine rule (fun _ => false) 40 0 _ _ _ ?_
  refine And.intro (by decide) ?_
  have ep : nI k * nI 20 + nI m / nI 2 = nI (k * 20 + m / 2) := by rw [pk_mul, pk_div (by omega) (by decide) (by decide), nI_add]
  refine pk_lt (k * 20 + m / 2) len (fun q => ?_) (fun q => ?_) ep hl
  · refine And.intro (by decide) ?_
    have hdl := hd.lt (show k * 20 + m / 2 < 80 by omega)
    have hda := hd.at (show k * 20 + m / 2 < 80 by omega)
    refine pk_eq (m % 2) 0 (fun q1 => ?_) (fun q1 => ?_) (jn_rem (by omega) (by decide) (by decide)) rfl
    · refine Exists.intro (k * 20 + m / 2) (And.intro (And.intro (by omega) ep) ?_)
      refine And.intro (by decide) (And.intro ?_ rfl)
      rw [hda, ds, if_pos q, if_pos q1]
      exact jn_rem (by omega) (by decide) (by decide)
    · refine Exists.intro (k * 20 + m / 2) (And.intro (And.intro (by omega) ep) ?_)
      refine And.intro (by decide) (And.intro ?_ rfl)
      rw [hda, ds, if_pos q, if_neg q1]
      exact pk_div (by omega) (by decide) (by decide)
  · refine And.intro ?_ rfl
    rw [ds, if_neg (by omega)]
/-- symbol m of page pg's payload, n pages needed -/
def pv (dc : Nat → Nat) (len n pg m : Nat) : Nat := if pg < n then ds dc len pg m else if pg = n then xs (fun k => ds dc len k m) n else xs (wt (fun k => ds dc len k m)) n
def dta (dc : Nat → Nat) (len n pg : Nat) : Nat → Nat := fun k => if k = 0 then pg else if k = 1 then n else if k = 2 then len % 16 else if k = 3 then len / 16 else pv dc len n pg (k - 4)
theorem pv_lt {dc : Nat → Nat} {len n pg m : Nat} (hl : len ≤ 80) (hdc : ∀ i, i < 80 → dc i < 256) : pv dc len n pg m < 16 := by
  unfold pv
  split
  · exact ds_lt hl hdc
  · split
    · exact xs_lt (fun _ _ => ds_lt hl hdc)
    · exact xs_lt (fun _ _ => gf_ml_lt _ _)
theorem S_V_writeData {pg n len : Nat} {dc s0 : Nat → Nat} {h : jxH} (hl : h 0 0 1 = nI len) (hl9 : len ≤ 80) (hd : AR (h 1 0) 80 256 dc) (hc : AR (h 10 0) 6 16 s0) (hn : n ≤ 4) (hpg : pg ≤ n + 1) : jx_MW 92 [jR 0 0, jI (nI pg), jI (nI n)] h (fun _ h' => ∃ f c s1, h' = jx_st (jx_st h 5 0 f) 10 0 c ∧ AR f 44 16 (dta dc len n pg) ∧ AR c 6 16 s1) := by
  refine jx_MW_by [some (jR 0 0), some (jI (nI pg)), some (jI (nI n)), none, none] (by decide) rfl (Nat.le_of_ble_eq_true rfl) (fun V rule => ?_)
  have hdc : ∀ i, i < 80 → dc i < 256 := fun i hi => hd.lt hi
  have loop := jl_up (P := fun m => ∀ (o : Option jxV) (f c : Nat → Int32) (s1 : Nat → Nat), AR c 6 16 s1 → (∀ k, k < 4 + m → f k = nI (dta dc len n pg k)) → V 42 [some (jR 0 0), some (jI (nI pg)), some (jI (nI n)), some (jI (nI m)), o] [] (jx_st (jx_st h 5 0 f) 10 0 c)) 40
    (by
      intro o f c s1 hc1 hf
      refine rule (fun _ => false) 10 42 _ _ _ ?_
      refine pk_le 40 40 (fun _ => ?_) (fun q => absurd q (Nat.lt_irrefl _))
      refine Exists.intro f (Exists.intro c (Exists.intro s1 (And.intro rfl (And.intro (fun k hk => ⟨hf k hk, ?_⟩) hc1))))
      unfold dta
      split
      · omega
      split
      · omega
      split
      · exact Nat.mod_lt _ (by decide)
      split
      · omega
      exact pv_lt hl9 hdc)
    (fun m hm ih => by
      intro o f c s1 hc1 hf
      have inner := jl_up (P := fun k => ∀ (c : Nat → Int32) (s1 : Nat → Nat), AR c 6 16 s1 → (∀ i, i < k → s1 i = ds dc len i m) → V 51 [some (jR 0 0), some (jI (nI pg)), some (jI (nI n)), some (jI (nI m)), some (jI (nI k))] [] (jx_st (jx_st h 5 0 f) 10 0 c)) n
        (by
          intro c s1 hc1 hk
          refine rule (Nat.beq 42) 40 51 _ _ _ ?_
          refine pk_le n n (fun _ => ?_) (fun q => absurd q (Nat.lt_irrefl _))
          have hc1' : AR (jx_st (jx_st h 5 0 f) 10 0 c 10 0) 6 16 s1 := hc1
          refine jx_cal (S_Col_addSpares hc1' hn) rfl (fun r h2 hq => ?_)
          obtain ⟨c2, rfl, hc2⟩ := hq
          rw [jx_st_st]
          have hc2' : AR (jx_st (jx_st h 5 0 f) 10 0 c2 10 0) 6 16 _ := hc2
          refine jx_cal (S_Col_get hc2' (show pg < 6 by omega)) rfl (fun r h2 hq => ?_)
          obtain ⟨rfl, rfl⟩ := hq
          refine Exists.intro (4 + m) (And.intro (And.intro (by omega) (nI_add 4 m)) ?_)
          have ev : nup (nup s1 n (xs s1 n)) (n + 1) (xs (wt s1) n) pg = pv dc len n pg m := by
            have e1 : xs s1 n = xs (fun k => ds dc len k m) n := xs_congr (fun k hkn => hk k hkn)
            have e2 : xs (wt s1) n = xs (wt (fun k => ds dc len k m)) n := xs_congr (fun k hkn => by unfold wt; rw [hk k hkn])
            unfold pv
            by_cases p1 : pg < n
            · rw [nup_ne _ _ (by omega), nup_ne _ _ (by omega), hk pg p1, if_pos p1]
            · by_cases p2 : pg = n
              · rw [nup_ne _ _ (by omega), p2, nup_same, e1, if_neg (by omega), if_pos rfl]
              · rw [show pg = n + 1 by omega, nup_same, e2, if_neg (by omega), if_neg (by omega)]
          rw [ev]
          refine jv_to (V := V) (ih (some (jI (nI n))) (upd f (4 + m) (nI (pv dc len n pg m))) c2 _ hc2 (fun k hk9 => ?_)) (by rw [nI_add]) rfl ?_
          · by_cases hk4 : k = 4 + m
            · subst hk4
              rw [upd_same]
              unfold dta
              rw [if_neg (by omega), if_neg (by omega), if_neg (by omega), if_neg (by omega), Nat.add_sub_cancel_left]
            · rw [upd_ne _ _ hk4]
              exact hf k (by omega)
          · rw [jx_sc (show 10 ≠ 5 by decide), jx_st_st]
            rfl)
        (fun k hk ih2 => by
          intro c s1 hc1 hs
          refine rule (Nat.beq 51) 40 51 _ _ _ ?_
          refine pk_le n k (fun q => absurd q (by omega)) (fun _ => ?_)
          have hl' : jx_st (jx_st h 5 0 f) 10 0 c 0 0 1 = nI len := hl
          have hd' : AR (jx_st (jx_st h 5 0 f) 10 0 c 1 0) 80 256 dc := hd
          refine jx_cal (S_V_documentSymbol (k := k) (m := m) hl' hl9 hd' (by omega) hm) rfl (fun r h2 hq => ?_)
          obtain ⟨rfl, rfl⟩ := hq
          refine jx_cal (S_Col_set (show k < 6 by omega)) rfl (fun r h2 hq => ?_)
          subst hq
          refine jv_to (V := V) (ih2 (upd c k (nI (ds dc len k m))) (nup s1 k (ds dc len k m)) (hc1.put (ds_lt hl9 hdc)) (fun i hi => ?_)) (by rw [nI_add]) rfl (by rw [jx_st_same, jx_st_st])
          by_cases hik : i = k
          · subst hik; exact nup_same _ _ _
          · rw [nup_ne _ _ hik]; exact hs i (by omega))
      refine rule (Nat.beq 51) 20 42 _ _ _ ?_
      refine pk_le 40 m (fun q => absurd q (by omega)) (fun _ => ?_)
      exact inner 0 (Nat.zero_le _) c s1 hc1 (fun i hi => absurd hi (Nat.not_lt_zero _)))
  refine rule (Nat.beq 42) 60 0 _ _ _ ?_
  refine Exists.intro 0 (And.intro (And.intro (by decide) rfl) ?_)
  refine Exists.intro 1 (And.intro (And.intro (by decide) rfl) ?_)
  refine And.intro (by decide) ?_
  refine Exists.intro 2 (And.intro (And.intro (by decide) rfl) ?_)
  refine And.intro (by decide) ?_
  refine Exists.intro 3 (And.intro (And.intro (by decide) rfl) ?_)
  refine jv_to (V := V) (loop 0 (Nat.zero_le _) none (upd (upd (upd (upd (h 5 0) 0 (nI pg)) 1 (nI n)) 2 (nI (len % 16))) 3 (nI (len / 16))) (h 10 0) s0 hc (fun k hk => ?_)) rfl rfl ?_
  · rcases (show k = 0 ∨ k = 1 ∨ k = 2 ∨ k = 3 by omega) with rfl | rfl | rfl | rfl <;> rfl
  · have e2 : nI len - nI len / nI 16 * nI 16 = nI (len % 16) := jn_rem (by omega) (by decide) (by decide)
    have e3 : nI len / nI 16 = nI (len / 16) := pk_div (by omega) (by decide) (by decide)
    have x1 : jx_st (jx_st (jx_st h 5 0 (upd (h 5 0) 0 (nI pg))) 5 0 (upd (jx_st h 5 0 (upd (h 5 0) 0 (nI pg)) 5 0) 1 (nI n))) 5 0 (upd (jx_st (jx_st h 5 0 (upd (h 5 0) 0 (nI pg))) 5 0 (upd (jx_st h 5 0 (upd (h 5 0) 0 (nI pg)) 5 0) 1 (nI n)) 5 0) 2 (h 0 0 1 - h 0 0 1 / nI 16 * nI 16)) = jx_st h 5 0 (upd (upd (upd (h 5 0) 0 (nI pg)) 1 (nI n)) 2 (h 0 0 1 - h 0 0 1 / nI 16 * nI 16)) := by
      rw [jx_st_st, jx_st_st, jx_st_same, jx_st_same]
    show jx_st (jx_st (jx_st (jx_st h 5 0 (upd (h 5 0) 0 (nI pg))) 5 0 (upd (jx_st h 5 0 (upd (h 5 0) 0 (nI pg)) 5 0) 1 (nI n))) 5 0 (upd (jx_st (jx_st h 5 0 (upd (h 5 0) 0 (nI pg))) 5 0 (upd (jx_st h 5 0 (upd (h 5 0) 0 (nI pg)) 5 0) 1 (nI n)) 5 0) 2 (h 0 0 1 - h 0 0 1 / nI 16 * nI 16))) 5 0 (upd (jx_st (jx_st (jx_st h 5 0 (upd (h 5 0) 0 (nI pg))) 5 0 (upd (jx_st h 5 0 (upd (h 5 0) 0 (nI pg)) 5 0) 1 (nI n))) 5 0 (upd (jx_st (jx_st h 5 0 (upd (h 5 0) 0 (nI pg))) 5 0 (upd (jx_st h 5 0 (upd (h 5 0) 0 (nI pg)) 5 0) 1 (nI n)) 5 0) 2 (h 0 0 1 - h 0 0 1 / nI 16 * nI 16)) 5 0) 3 (h 0 0 1 / nI 16)) = _
    rw [x1, jx_st_same, jx_st_st, hl, e2, e3]
    exact (jx_st_id (jx_st h 5 0 (upd (upd (upd (upd (h 5 0) 0 (nI pg)) 1 (nI n)) 2 (nI (len % 16))) 3 (nI (len / 16)))) 10 0).symm
end
section
/-! DotVault: drawing a sheet, and the calls. -/
theorem cq_congr {s t : Nat → Nat} (h : ∀ k, 4 ≤ k → k < 15 → s k = t k) : ∀ n, n ≤ 11 → cq s n = cq t n
  | 0, _ => rfl
  | n + 1, hn => by rw [cq_succ, cq_succ, cq_congr h n (by omega), h (14 - n) (by omega) (by omega)]
theorem cpn_congr {s t : Nat → Nat} (h : ∀ k, 4 ≤ k → k < 15 → s k = t k) {k : Nat} (hk : k < 15) : cpn s 11 k = cpn t 11 k := by
  unfold cpn
  rw [cq_congr h 11 (Nat.le_refl _)]
  by_cases k0 : k = 0
  · simp [k0]
  by_cases k1 : k = 1
  · simp [k1]
  by_cases k2 : k = 2
  · simp [k2]
  by_cases k3 : k = 3
  · simp [k3]
  simp only [k0, k1, k2, k3, if_false]
  exact h k (by omega) hk
/-- row r of the data d, made a word -/
def wd9 (d : Nat → Nat) (r : Nat) : Nat → Nat := cpn (fun k => d (11 * r + (k - 4))) 11
noncomputable def pgD (d : Nat → Nat) : Nat → Nat → Nat → Bool
  | 0 => fun a b => if edge a b = true then fr a b else false
  | r + 1 => dr (pgD d r) (wd9 d r) r 15
theorem S_V_drawSheet {p : Nat} {d s0 : Nat → Nat} {h : jxH} (hd : AR (h 5 0) 44 16 d) (hs : AR (h 7 0) 15 16 s0) : jx_MW 101 [jR 0 0, jR 3 p] h (fun _ h' => ∃ f a s1, h' = jx_st (jx_st h 4 p f) 7 0 a ∧ LN f (pgD d 4) ∧ AR a 15 16 s1) := by
  refine jx_MW_by [some (jR 0 0), some (jR 3 p), none] (by decide) rfl (Nat.le_of_ble_eq_true rfl) (fun V rule => ?_)
  have loop := jl_up (P := fun r => ∀ (f a : Nat → Int32) (s1 : Nat → Nat), LN f (pgD d r) → AR a 15 16 s1 → V 10 [some (jR 0 0), some (jR 3 p), some (jI (nI r))] [] (jx_st (jx_st h 4 p f) 7 0 a)) 4
    (by
      intro f a s1 hf ha
      refine rule (fun _ => false) 10 10 _ _ _ ?_
      refine pk_le 4 4 (fun _ => ?_) (fun q => absurd q (Nat.lt_irrefl _))
      exact Exists.intro f (Exists.intro a (Exists.intro s1 (And.intro rfl (And.intro hf ha)))))
    (fun r hr ih => by
      intro f a s1 hf ha
      refine rule (Nat.beq 10) 40 10 _ _ _ ?_
      refine pk_le 4 r (fun q => absurd q (by omega)) (fun _ => ?_)
      have ha' : AR (jx_st (jx_st h 4 p f) 7 0 a 7 0) 15 16 s1 := ha
      have hd' : AR (jx_st (jx_st h 4 p f) 7 0 a 5 0) 44 16 d := hd
      refine jx_cal (S_Row_takeData ha' hd' hr) rfl (fun q h2 hq => ?_)
      obtain ⟨a2, rfl, ha2⟩ := hq
      rw [jx_st_st]
      have ha2' : AR (jx_st (jx_st h 4 p f) 7 0 a2 7 0) 15 16 _ := ha2
      refine jx_cal (S_Row_complete ha2') rfl (fun q h2 hq => ?_)
      obtain ⟨a3, rfl, ha3⟩ := hq
      rw [jx_st_st]
      have ha3' : AR (jx_st (jx_st h 4 p f) 7 0 a3 7 0) 15 16 (wd9 d r) := AR.congr (f := a3) ha3 (fun k hk => (cpn_congr (fun i h4 h15 => by simp [h4]) hk).symm)
      have hf' : LN (jx_st (jx_st h 4 p f) 7 0 a3 4 p) (pgD d r) := by
        show LN (jx_st h 4 p f 4 p) (pgD d r)
        rw [jx_st_same]
        exact hf
      refine jx_cal (S_Row_draw ha3' hf' hr) rfl (fun q h2 hq => ?_)
      obtain ⟨f2, rfl, hf2⟩ := hq
      rw [jx_sc (show 7 ≠ 4 by decide), jx_st_st]
      exact jv_to (V := V) (ih f2 a3 _ hf2 ha3) (by rw [nI_add]) rfl rfl)
  refine rule (Nat.beq 10) 20 0 _ _ _ ?_
  refine jx_cal S_Sheet_whiten rfl (fun q h2 hq => ?_)
  obtain ⟨f0, rfl, hf0⟩ := hq
  refine jx_cal (S_Sheet_drawFrame (hf0.st h p)) rfl (fun q h2 hq => ?_)
  obtain ⟨f1, rfl, hf1⟩ := hq
  rw [jx_st_st]
  exact jv_to (V := V) (loop 0 (Nat.zero_le _) f1 (h 7 0) s0 hf1 hs) rfl rfl (jx_st_id (jx_st h 4 p f1) 7 0).symm
-- the calls
theorem B_V_load {b : Int32} {len : Nat} {h : jxH} (hl : h 0 0 1 = nI len) (hl9 : len ≤ 80) : jx_BD 2 [jR 0 0, jI b] h
    (fun r h' => (¬ b < 0 ∧ b ≤ nI 255) ∧ len < 80 ∧ r = nI (len + 1) ∧ h' = jx_st (jx_st h 1 0 (upd (h 1 0) len b)) 0 0 (upd (h 0 0) 1 (nI (len + 1))))
    (fun x h' => h' = h ∧ ((x = 0 ∧ ¬ (¬ b < 0 ∧ b ≤ nI 255)) ∨ (x = 1 ∧ (¬ b < 0 ∧ b ≤ nI 255) ∧ len = 80))) := by
  refine jx_BD_by [some (jR 0 0), some (jI b)] rfl (fun V rule => ?_)
  refine rule (fun _ => false) 40 0 _ _ _ ?_
  refine br_c (fun q => ?_) (fun q => ?_)
  · exact And.intro rfl (Or.inl (And.intro rfl (fun z => z.1 q)))
  · refine br_c (fun q1 => ?_) (fun q1 => ?_)
    · refine pk_lt len 80 (fun q2 => ?_) (fun q2 => ?_) hl rfl
      · refine Exists.intro len (And.intro (And.intro q2 hl) ?_)
        refine And.intro ⟨q, q1⟩ (And.intro q2 (And.intro ?_ ?_))
        · show h 0 0 1 + nI 1 = _
          rw [hl, nI_add]
        · show jx_st (jx_st h 1 0 (upd (h 1 0) len b)) 0 0 (upd (h 0 0) 1 (h 0 0 1 + nI 1)) = _
          rw [hl, nI_add]
      · exact And.intro rfl (Or.inr (And.intro rfl (And.intro ⟨q, q1⟩ (by omega))))
    · exact And.intro rfl (Or.inl (And.intro rfl (fun z => q1 z.2)))
theorem B_V_errors {r : Int32} {h : jxH} : jx_BD 45 [jR 0 0, jI r] h (fun q h' => hp9 r 4 = true ∧ (∀ j, j < 4 → r = nI j → q = h 13 0 j) ∧ h' = h) (fun x h' => h' = h ∧ x = 0 ∧ hp9 r 4 = false) := by
  refine jx_BD_by [some (jR 0 0), some (jI r)] rfl (fun V rule => ?_)
  refine rule (fun _ => false) 40 0 _ _ _ ?_
  refine br_c (fun q => ?_) (fun q => ?_)
  · exact And.intro rfl (And.intro rfl (by simp [hp9, q]))
  · refine br_c (fun q1 => ?_) (fun q1 => ?_)
    · have e : hp9 r 4 = true := by
        have q2 : r < nI 4 := q1
        simp [hp9, q, q2]
      obtain ⟨j, hj, rfl⟩ := hp9_t (by decide) e
      refine jx_cal (S_Scan_errorsOf hj) rfl (fun z h2 hq => ?_)
      obtain ⟨rfl, rfl⟩ := hq
      refine And.intro e (And.intro (fun j2 hj2 ej => ?_) rfl)
      rw [jn_inj (by omega) (by omega) ej]
    · have q2 : ¬ r < nI 4 := q1
      exact And.intro rfl (And.intro rfl (by simp [hp9, q2]))
theorem B_V_out {i : Int32} {rl : Nat} {h : jxH} (hr : h 14 0 6 = nI rl) (hr9 : rl ≤ 80) : jx_BD 48 [jR 0 0, jI i] h (fun q h' => hp9 i rl = true ∧ (∀ j, j < rl → i = nI j → q = h 18 0 j) ∧ h' = h) (fun x h' => h' = h ∧ x = 2 ∧ hp9 i rl = false) := by
  refine jx_BD_by [some (jR 0 0), some (jI i)] rfl (fun V rule => ?_)
  refine rule (fun _ => false) 40 0 _ _ _ ?_
  refine br_c (fun q => ?_) (fun q => ?_)
  · exact And.intro rfl (And.intro rfl (by simp [hp9, q]))
  · refine jx_cal S_Rd_rebuiltLength rfl (fun z h2 hq => ?_)
    obtain ⟨rfl, rfl⟩ := hq
    refine br_c (fun q1 => ?_) (fun q1 => ?_)
    · have e : hp9 i rl = true := by
        have q2 : i < nI rl := by rw [← hr]; exact q1
        simp [hp9, q, q2]
      obtain ⟨j, hj, rfl⟩ := hp9_t (by omega) e
      refine jx_cal (S_Rd_rebuiltByte (show j < 80 by omega)) rfl (fun z h3 hq => ?_)
      obtain ⟨rfl, rfl⟩ := hq
      refine And.intro e (And.intro (fun j2 hj2 ej => ?_) rfl)
      rw [jn_inj (by omega) (by omega) ej]
    · have q2 : ¬ i < nI rl := by rw [← hr]; exact q1
      exact And.intro rfl (And.intro rfl (by simp [hp9, q2]))
theorem B_V_rebuild {kp nd : Nat} {b : Nat → Bool} {pl : Nat → Nat → Nat} {h : jxH} (hk : h 14 0 2 = nI kp) (hn : h 14 0 3 = nI nd) (hb : BA (h 17 0) 6 b) (hp : ∀ p, p < 6 → AR (h 16 p) 40 16 (pl p)) (hk9 : kp < 100) (hn4 : nd ≤ 4) : jx_BD 108 [jR 0 0] h
    (fun q h' => (0 < kp ∧ nd ≤ kp) ∧ q = h 14 0 4 ∧ ∃ c r, h' = jx_st (jx_st (jx_st h 10 1 c) 18 0 r) 14 0 (upd (h 14 0) 6 (h 14 0 4)) ∧ ∀ k, k < 80 → k / 20 < nd → r k = nI (col b pl nd (2 * (k % 20)) (k / 20)) + nI 16 * nI (col b pl nd (2 * (k % 20) + 1) (k / 20)))
    (fun x h' => h' = h ∧ x = 1 ∧ ¬ (0 < kp ∧ nd ≤ kp)) := by
  refine jx_BD_by [some (jR 0 0)] rfl (fun V rule => ?_)
  refine rule (fun _ => false) 40 0 _ _ _ ?_
  refine jx_cal (S_Rd_hasEnough hk hn hk9 (by omega)) rfl (fun z h2 hq => ?_)
  obtain ⟨rfl, rfl⟩ := hq
  refine pk_eq (decide (0 < kp ∧ nd ≤ kp)).toNat 0 (fun q => ?_) (fun q => ?_) rfl rfl (by have := toNat_le (decide (0 < kp ∧ nd ≤ kp)); omega) (by decide)
  · exact And.intro rfl (And.intro rfl (of_decide_eq_false (tn0 q)))
  · refine jx_cal (S_Rd_putTogether hn hb hp hn4) rfl (fun z h3 hq => ?_)
    exact And.intro (of_decide_eq_true (tn1 q)) hq
theorem B_V_dot {pg x y : Int32} {P : Nat} {DD : Nat → Nat → Nat → Bool} {h : jxH} (hP : h 0 0 3 = nI P) (hP6 : P ≤ 6) (hL : ∀ p, p < 6 → LN (h 4 p) (DD p)) : jx_BD 77 [jR 0 0, jI pg, jI x, jI y] h
    (fun r h' => hd9 pg x y P = true ∧ (∀ p i j, p < P → i < 18 → j < 18 → pg = nI p → x = nI i → y = nI j → r = nI (DD p i j).toNat) ∧ h' = h) (fun z h' => h' = h ∧ z = 0 ∧ hd9 pg x y P = false) := by
  refine jx_BD_by [some (jR 0 0), some (jI pg), some (jI x), some (jI y)] rfl (fun V rule => ?_)
  refine rule (fun _ => false) 40 0 _ _ _ ?_
  refine jx_cal (S_V_hasDot hP) rfl (fun z h2 hq => ?_)
  obtain ⟨rfl, rfl⟩ := hq
  refine pk_eq (hd9 pg x y P).toNat 0 (fun q => ?_) (fun q => ?_) rfl rfl (by have := toNat_le (hd9 pg x y P); omega) (by decide)
  · exact And.intro rfl (And.intro rfl (tn0 q))
  · have e := tn1 q
    have e2 := e
    simp only [hd9, Bool.and_eq_true] at e2
    obtain ⟨p, hp, rfl⟩ := hp9_t (by omega) e2.1
    obtain ⟨i, hi, rfl⟩ := hp9_t (by decide) e2.2.1
    obtain ⟨j, hj, rfl⟩ := hp9_t (by decide) e2.2.2
    refine Exists.intro p (And.intro (And.intro (by omega) rfl) ?_)
    refine jx_cal (S_Sheet_isBlack (hL p (by omega)) hi hj) rfl (fun z h3 hq => ?_)
    obtain ⟨rfl, rfl⟩ := hq
    have b01 : nI (DD p i j).toNat = nI 0 ∨ nI (DD p i j).toNat = nI 1 := by cases DD p i j; exact Or.inl rfl; exact Or.inr rfl
    refine And.intro b01 (And.intro e (And.intro (fun p2 i2 j2 h1 h2 h3 e1 e2 e3 => ?_) rfl))
    rw [jn_inj (by omega) (by omega) e1, jn_inj (by omega) (by omega) e2, jn_inj (by omega) (by omega) e3]
theorem B_V_flip {pg x y : Int32} {P : Nat} {DD : Nat → Nat → Nat → Bool} {h : jxH} (hP : h 0 0 3 = nI P) (hP6 : P ≤ 6) (hL : ∀ p, p < 6 → LN (h 4 p) (DD p)) : jx_BD 78 [jR 0 0, jI pg, jI x, jI y] h
    (fun _ h' => ∃ p i j f, p < P ∧ i < 18 ∧ j < 18 ∧ pg = nI p ∧ x = nI i ∧ y = nI j ∧ h' = jx_st h 4 p f ∧ LN f (fun a b => if a = i ∧ b = j then !DD p a b else DD p a b)) (fun z h' => h' = h ∧ z = 0 ∧ hd9 pg x y P = false) := by
  refine jx_BD_by [some (jR 0 0), some (jI pg), some (jI x), some (jI y)] rfl (fun V rule => ?_)
  refine rule (fun _ => false) 40 0 _ _ _ ?_
  refine jx_cal (S_V_hasDot hP) rfl (fun z h2 hq => ?_)
  obtain ⟨rfl, rfl⟩ := hq
  refine pk_eq (hd9 pg x y P).toNat 0 (fun q => ?_) (fun q => ?_) rfl rfl (by have := toNat_le (hd9 pg x y P); omega) (by decide)
  · exact And.intro rfl (And.intro rfl (tn0 q))
  · have e2 := tn1 q
    simp only [hd9, Bool.and_eq_true] at e2
    obtain ⟨p, hp, rfl⟩ := hp9_t (by omega) e2.1
    obtain ⟨i, hi, rfl⟩ := hp9_t (by decide) e2.2.1
    obtain ⟨j, hj, rfl⟩ := hp9_t (by decide) e2.2.2
    refine Exists.intro p (And.intro (And.intro (by omega) rfl) ?_)
    refine jx_cal (S_Sheet_invert (hL p (by omega)) hi hj) rfl (fun z h3 hq => ?_)
    obtain ⟨f, rfl, hf⟩ := hq
    exact Exists.intro p (Exists.intro i (Exists.intro j (Exists.intro f (And.intro hp (And.intro hi (And.intro hj (And.intro rfl (And.intro rfl (And.intro rfl (And.intro rfl hf)))))))))) 
end
section
/-! DotVault: blot, feed, print. -/
def sz9 (w : Int32) : Bool := decide (¬ w < nI 1) && decide (¬ nI 18 < w)
theorem sz9_t {w : Int32} (h : sz9 w = true) : ∃ j, 1 ≤ j ∧ j ≤ 18 ∧ w = nI j := by
  simp only [sz9, Bool.and_eq_true, decide_eq_true_eq] at h
  have h0 : ¬ w < 0 := fun q => h.1 (by
    rw [Int32.lt_iff_toInt_lt] at q ⊢
    have e1 : (nI 1).toInt = 1 := nI_toInt (by decide)
    have e0 : (0 : Int32).toInt = 0 := Int32.toInt_zero
    omega)
  obtain ⟨j, hj, rfl⟩ := nI_of h0
  rw [nI_ltI hj (by decide), nI_ltI (by decide) hj] at h
  exact ⟨j, by omega, by omega, rfl⟩
theorem jn_min {a : Nat} (ha : a < 1000) : (if nI 18 < nI a then nI 18 else nI a) = nI (min a 18) := by
  by_cases h : 18 < a
  · rw [if_pos ((nI_ltI (by decide) (by omega)).mpr h), Nat.min_eq_right (by omega)]
  · rw [if_neg (fun q => h ((nI_ltI (by decide) (by omega)).mp q)), Nat.min_eq_left (by omega)]
theorem B_V_blot {pg x y wi hi : Int32} {c : Bool} {P : Nat} {DD : Nat → Nat → Nat → Bool} {h : jxH} (hP : h 0 0 3 = nI P) (hP6 : P ≤ 6) (hL : ∀ p, p < 6 → LN (h 4 p) (DD p)) : jx_BD 76 [jR 0 0, jI pg, jI x, jI y, jI wi, jI hi, jI (nI c.toNat)] h
    (fun q h' => ∃ p i j w g f, p < P ∧ i < 18 ∧ j < 18 ∧ 1 ≤ w ∧ w ≤ 18 ∧ 1 ≤ g ∧ g ≤ 18 ∧ pg = nI p ∧ x = nI i ∧ y = nI j ∧ wi = nI w ∧ hi = nI g ∧ q = nI (sm (fun y => sm (df (DD p) c y) i (min (i + w) 18 - i)) j (min (j + g) 18 - j)) ∧ h' = jx_st h 4 p f ∧ LN f (pD (DD p) i j (min (i + w) 18) (min (j + g) 18) c))
    (fun z h' => h' = h ∧ z = 0 ∧ (hd9 pg x y P && (sz9 wi && sz9 hi)) = false) := by
  refine jx_BD_by [some (jR 0 0), some (jI pg), some (jI x), some (jI y), some (jI wi), some (jI hi), some (jI (nI c.toNat)), none, none] rfl (fun V rule => ?_)
  refine rule (fun _ => false) 80 0 _ _ _ ?_
  refine jx_cal (S_V_hasDot hP) rfl (fun z h2 hq => ?_)
  obtain ⟨rfl, rfl⟩ := hq
  refine pk_eq (hd9 pg x y P).toNat 0 (fun q => ?_) (fun q => ?_) rfl rfl (by have := toNat_le (hd9 pg x y P); omega) (by decide)
  · exact And.intro rfl (And.intro rfl (by rw [tn0 q]; rfl))
  · have e0 := tn1 q
    refine br_c (fun q1 => ?_) (fun q1 => ?_)
    · exact And.intro rfl (And.intro rfl (by simp [sz9, show wi < nI 1 from q1]))
    refine br_c (fun q2 => ?_) (fun q2 => ?_)
    · exact And.intro rfl (And.intro rfl (by simp [sz9, show nI 18 < wi from q2]))
    refine br_c (fun q3 => ?_) (fun q3 => ?_)
    · exact And.intro rfl (And.intro rfl (by simp [sz9, show hi < nI 1 from q3]))
    refine br_c (fun q4 => ?_) (fun q4 => ?_)
    · have e1 : sz9 wi = true := by simp [sz9, show ¬ wi < nI 1 from q1, show ¬ nI 18 < wi from q2]
      have q5 : ¬ nI 18 < hi := Int32.not_lt.mpr q4
      have e2 : sz9 hi = true := by simp [sz9, show ¬ hi < nI 1 from q3, q5]
      have e3 := e0
      simp only [hd9, Bool.and_eq_true] at e3
      obtain ⟨p, hp, rfl⟩ := hp9_t (by omega) e3.1
      obtain ⟨i, hi9, rfl⟩ := hp9_t (by decide) e3.2.1
      obtain ⟨j, hj, rfl⟩ := hp9_t (by decide) e3.2.2
      obtain ⟨w, w1, w2, rfl⟩ := sz9_t e1
      obtain ⟨g, g1, g2, rfl⟩ := sz9_t e2
      refine Exists.intro p (And.intro (And.intro (by omega) rfl) ?_)
      refine jx_cal (S_Sheet_paint (l := i) (t := j) (r := min (i + w) 18) (b := min (j + g) 18) (c := c) (hL p (by omega)) (Nat.min_le_right _ _) (Nat.min_le_right _ _) (by omega) (by omega)) (by rw [nI_add, nI_add, ← jn_min (by omega), ← jn_min (by omega)]) (fun z h3 hq => ?_)
      obtain ⟨rfl, f, rfl, hf⟩ := hq
      exact Exists.intro p (Exists.intro i (Exists.intro j (Exists.intro w (Exists.intro g (Exists.intro f (And.intro hp (And.intro hi9 (And.intro hj (And.intro w1 (And.intro w2 (And.intro g1 (And.intro g2 (And.intro rfl (And.intro rfl (And.intro rfl (And.intro rfl (And.intro rfl (And.intro rfl (And.intro rfl hf)))))))))))))))))))
    · have q5 : nI 18 < hi := Int32.not_le.mp q4
      exact And.intro rfl (And.intro rfl (by simp [sz9, q5]))
theorem htk_12 (h : jxH) (kp : Nat) (d : Nat → Nat) : htk h kp d 12 0 = h 12 0 := by
  unfold htk
  split <;> rfl
theorem hst_12 (h : jxH) (n : Nat) (f : Nat → Int32) : hst h n f 12 0 = h 12 0 := rfl
theorem B_V_feed {pg tn : Int32} {P kp nd ln : Nat} {b : Nat → Bool} {DD : Nat → Nat → Nat → Bool} {h : jxH} (hP : h 0 0 3 = nI P) (hP6 : P ≤ 6) (hL : ∀ p, p < 6 → LN (h 4 p) (DD p)) (hk : h 14 0 2 = nI kp) (hn : h 14 0 3 = nI nd) (hl : h 14 0 4 = nI ln) (hb : BA (h 17 0) 6 b) (hk9 : kp < 100) (hn9 : nd < 1000) (hl9 : ln < 1000) : jx_BD 111 [jR 0 0, jI pg, jI tn] h
    (fun q h' => ∃ p t a g e dd, p < P ∧ t < 4 ∧ pg = nI p ∧ tn = nI t ∧
      ((8 < ftn (DD p) (rdT (DD p) t) ∧ q = -nI 1 ∧ (∀ r, r < 4 → e r = -nI 2) ∧ h' = hS4 h a g e dd) ∨
       (ftn (DD p) (rdT (DD p) t) ≤ 8 ∧ (∀ r, r < 4 → e r = (cor (rw9 (DD p) (rdT (DD p) t) r)).1) ∧
        (((alw (DD p) (rdT (DD p) t) 4 && tp (rdd (DD p) (rdT (DD p) t))) = false ∧ q = -nI 1 ∧ h' = hS4 h a g e dd) ∨
         ((alw (DD p) (rdT (DD p) t) 4 && tp (rdd (DD p) (rdT (DD p) t))) = true ∧ AR dd 44 16 (rdd (DD p) (rdT (DD p) t)) ∧
          ((¬ kp = 0 ∧ ¬ (rdd (DD p) (rdT (DD p) t) 1 = nd ∧ rdd (DD p) (rdT (DD p) t) 2 + 16 * rdd (DD p) (rdT (DD p) t) 3 = ln) ∧ q = -nI 2 ∧ h' = hS4 h a g e dd) ∨
           ((kp = 0 ∨ (rdd (DD p) (rdT (DD p) t) 1 = nd ∧ rdd (DD p) (rdT (DD p) t) 2 + 16 * rdd (DD p) (rdT (DD p) t) 3 = ln)) ∧ q = nI (rdd (DD p) (rdT (DD p) t) 0) ∧
            (b (rdd (DD p) (rdT (DD p) t) 0) = true → h' = htk (hS4 h a g e dd) kp (rdd (DD p) (rdT (DD p) t))) ∧
            (b (rdd (DD p) (rdT (DD p) t) 0) = false → ∃ f, h' = hst (htk (hS4 h a g e dd) kp (rdd (DD p) (rdT (DD p) t))) (rdd (DD p) (rdT (DD p) t) 0) f ∧ AR f 40 16 (fun m => rdd (DD p) (rdT (DD p) t) (4 + m))))))))))
    (fun z h' => h' = h ∧ z = 0 ∧ (hp9 pg P && hp9 tn 4) = false) := by
  refine jx_BD_by [some (jR 0 0), some (jI pg), some (jI tn)] rfl (fun V rule => ?_)
  refine rule (fun _ => false) 60 0 _ _ _ ?_
  refine jx_cal (S_V_hasPage hP) rfl (fun z h2 hq => ?_)
  obtain ⟨rfl, rfl⟩ := hq
  refine pk_eq (hp9 pg P).toNat 0 (fun q => ?_) (fun q => ?_) rfl rfl (by have := toNat_le (hp9 pg P); omega) (by decide)
  · exact And.intro rfl (And.intro rfl (by rw [tn0 q]; rfl))
  refine br_c (fun q1 => ?_) (fun q1 => ?_)
  · exact And.intro rfl (And.intro rfl (by simp [hp9, q1]))
  refine br_c (fun q2 => ?_) (fun q2 => ?_)
  · have e2 : hp9 tn 4 = true := by simp [hp9, q1, show tn < nI 4 from q2]
    obtain ⟨p, hp, rfl⟩ := hp9_t (by omega) (tn1 q)
    obtain ⟨t, ht, rfl⟩ := hp9_t (by decide) e2
    refine Exists.intro p (And.intro (And.intro (by omega) rfl) ?_)
    refine jx_cal (S_Scan_read (hL p (by omega)) ht) rfl (fun z h3 hq => ?_)
    obtain ⟨a, g, e, dd, rfl, hq⟩ := hq
    rcases hq with ⟨c1, rfl, c2⟩ | ⟨c1, rfl, c2, c3⟩
    · refine pk_eq 0 0 (fun _ => ?_) (fun z => absurd rfl z)
      exact Exists.intro p (Exists.intro t (Exists.intro a (Exists.intro g (Exists.intro e (Exists.intro dd (And.intro hp (And.intro ht (And.intro rfl (And.intro rfl (Or.inl (And.intro c1 (And.intro rfl (And.intro c2 rfl)))))))))))))
    · refine pk_eq (alw (DD p) (rdT (DD p) t) 4 && tp (rdd (DD p) (rdT (DD p) t))).toNat 0 (fun z => ?_) (fun z => ?_) rfl rfl (by have := toNat_le (alw (DD p) (rdT (DD p) t) 4 && tp (rdd (DD p) (rdT (DD p) t))); omega) (by decide)
      · exact Exists.intro p (Exists.intro t (Exists.intro a (Exists.intro g (Exists.intro e (Exists.intro dd (And.intro hp (And.intro ht (And.intro rfl (And.intro rfl (Or.inr (And.intro c1 (And.intro c2 (Or.inl (And.intro (tn0 z) (And.intro rfl rfl)))))))))))))))
      · have z1 := tn1 z
        have z2 := z1
        simp only [Bool.and_eq_true, tp, decide_eq_true_eq] at z2
        have hk' : hS4 h2 a g e dd 14 0 2 = nI kp := hk
        have hn' : hS4 h2 a g e dd 14 0 3 = nI nd := hn
        have hl' : hS4 h2 a g e dd 14 0 4 = nI ln := hl
        have hb' : BA (hS4 h2 a g e dd 17 0) 6 b := hb
        have hd' : AR (hS4 h2 a g e dd 12 0) 44 16 (rdd (DD p) (rdT (DD p) t)) := c3
        refine jx_cal (S_Rd_keep hk' hn' hl' hb' hd' (by omega) hk9 hn9 hl9) rfl (fun r h4 hq => ?_)
        rcases hq with ⟨k1, k2, rfl, rfl⟩ | ⟨k1, rfl, k2, k3⟩
        · refine pk_eq 0 0 (fun _ => ?_) (fun z => absurd rfl z)
          exact Exists.intro p (Exists.intro t (Exists.intro a (Exists.intro g (Exists.intro e (Exists.intro dd (And.intro hp (And.intro ht (And.intro rfl (And.intro rfl (Or.inr (And.intro c1 (And.intro c2 (Or.inr (And.intro z1 (And.intro c3 (Or.inl (And.intro k1 (And.intro k2 (And.intro rfl rfl)))))))))))))))))))
        · refine pk_eq 1 0 (fun z => absurd z (by decide)) (fun _ => ?_)
          have h12 : h4 12 0 = dd := by
            cases hbd : b (rdd (DD p) (rdT (DD p) t) 0) with
            | true => rw [k2 hbd, htk_12]; rfl
            | false =>
              obtain ⟨f, hf, -⟩ := k3 hbd
              rw [hf, hst_12, htk_12]; rfl
          have hd4 : AR (h4 12 0) 44 16 (rdd (DD p) (rdT (DD p) t)) := by rw [h12]; exact c3
          refine jx_cal (S_Scan_number hd4) rfl (fun r h5 hq => ?_)
          obtain ⟨rfl, rfl⟩ := hq
          exact Exists.intro p (Exists.intro t (Exists.intro a (Exists.intro g (Exists.intro e (Exists.intro dd (And.intro hp (And.intro ht (And.intro rfl (And.intro rfl (Or.inr (And.intro c1 (And.intro c2 (Or.inr (And.intro z1 (And.intro c3 (Or.inr (And.intro k1 (And.intro rfl (And.intro k2 k3)))))))))))))))))))
  · have q3 : ¬ tn < nI 4 := q2
    exact And.intro rfl (And.intro rfl (by simp [hp9, q3]))
/-- print leaves all else -/
def frm (h h' : jxH) : Prop := ∀ k i, k ≠ 0 → k ≠ 4 → k ≠ 5 → (k ≠ 7 ∨ i ≠ 0) → (k ≠ 10 ∨ i ≠ 0) → h' k i = h k i
theorem B_V_print {len : Nat} {dc s0 s1 : Nat → Nat} {h : jxH} (hl : h 0 0 1 = nI len) (hl9 : len ≤ 80) (hd : AR (h 1 0) 80 256 dc) (hc : AR (h 10 0) 6 16 s0) (hs : AR (h 7 0) 15 16 s1) : jx_BD 107 [jR 0 0] h
    (fun q h' => 0 < len ∧ q = nI ((len + 19) / 20 + 2) ∧ frm h h' ∧ h' 0 0 = upd (h 0 0) 3 (nI ((len + 19) / 20 + 2)) ∧ (∀ p, (len + 19) / 20 + 2 ≤ p → h' 4 p = h 4 p) ∧ (∀ p, p < (len + 19) / 20 + 2 → LN (h' 4 p) (pgD (dta dc len ((len + 19) / 20) p) 4)) ∧ (∃ s, AR (h' 10 0) 6 16 s) ∧ (∃ s, AR (h' 7 0) 15 16 s))
    (fun x h' => h' = h ∧ x = 1 ∧ len = 0) := by
  refine jx_BD_by [some (jR 0 0), none, none] rfl (fun V rule => ?_)
  by_cases hl0 : len = 0
  · refine rule (fun _ => false) 40 0 _ _ _ ?_
    refine pk_eq len 0 (fun q => ?_) (fun q => absurd hl0 q) hl rfl
    exact And.intro rfl (And.intro rfl q)
  obtain ⟨n, hne⟩ : ∃ n, n = (len + 19) / 20 := ⟨_, rfl⟩
  have hn1 : 1 ≤ n := by omega
  have hn4 : n ≤ 4 := by omega
  have loop := jl_up (P := fun p => ∀ hh : jxH, frm h hh → hh 0 0 = upd (h 0 0) 3 (nI (n + 2)) → (∀ p', p ≤ p' → hh 4 p' = h 4 p') → (∀ p', p' < p → LN (hh 4 p') (pgD (dta dc len n p') 4)) → (∃ s, AR (hh 10 0) 6 16 s) → (∃ s, AR (hh 7 0) 15 16 s) → V 39 [some (jR 0 0), some (jI (nI n)), some (jI (nI p))] [] hh) (n + 2)
    (by
      intro hh h1 h2 h3 h4 h5 h6
      refine rule (fun _ => false) 20 39 _ _ _ ?_
      have e3 : hh 0 0 3 = nI (n + 2) := by rw [h2, upd_same]
      refine pk_le (n + 2) (n + 2) (fun _ => ?_) (fun q => absurd q (Nat.lt_irrefl _)) e3 rfl
      subst hne
      exact And.intro (by omega) (And.intro e3 (And.intro h1 (And.intro h2 (And.intro h3 (And.intro h4 (And.intro h5 h6)))))))
    (fun p hp ih => by
      intro hh h1 h2 h3 h4 h5 h6
      refine rule (Nat.beq 39) 40 39 _ _ _ ?_
      have e3 : hh 0 0 3 = nI (n + 2) := by rw [h2, upd_same]
      have e1 : hh 0 0 1 = nI len := by rw [h2, upd_ne _ _ (by decide)]; exact hl
      have hdh : AR (hh 1 0) 80 256 dc := by rw [h1 1 0 (by decide) (by decide) (by decide) (Or.inl (by decide)) (Or.inl (by decide))]; exact hd
      obtain ⟨s5, h5⟩ := h5
      obtain ⟨s6, h6⟩ := h6
      refine pk_le (n + 2) p (fun q => absurd q (by omega)) (fun _ => ?_) e3 rfl
      refine jx_cal (S_V_writeData e1 hl9 hdh h5 hn4 (show p ≤ n + 1 by omega)) rfl (fun r h8 hq => ?_)
      obtain ⟨f, c, s7, rfl, hf, hc7⟩ := hq
      refine Exists.intro p (And.intro (And.intro (by omega) rfl) ?_)
      have hf' : AR (jx_st (jx_st hh 5 0 f) 10 0 c 5 0) 44 16 (dta dc len n p) := hf
      have h6' : AR (jx_st (jx_st hh 5 0 f) 10 0 c 7 0) 15 16 s6 := h6
      refine jx_cal (S_V_drawSheet (p := p) hf' h6') rfl (fun r h8 hq => ?_)
      obtain ⟨f2, a2, s8, rfl, hf2, ha2⟩ := hq
      refine jv_to (V := V) (ih _ ?_ ?_ ?_ ?_ ?_ ?_) (by rw [nI_add]) rfl rfl
      · intro k i k0 k4 k5 k7 k10
        rw [← h1 k i k0 k4 k5 k7 k10]
        have x7 : jx_st (jx_st (jx_st (jx_st hh 5 0 f) 10 0 c) 4 p f2) 7 0 a2 k i = jx_st (jx_st (jx_st hh 5 0 f) 10 0 c) 4 p f2 k i := jx_st_ne (fun z => by cases z; rcases k7 with z | z <;> exact z rfl)
        have x4 : jx_st (jx_st (jx_st hh 5 0 f) 10 0 c) 4 p f2 k i = jx_st (jx_st hh 5 0 f) 10 0 c k i := jx_st_ne (fun z => by cases z; exact k4 rfl)
        have x10 : jx_st (jx_st hh 5 0 f) 10 0 c k i = jx_st hh 5 0 f k i := jx_st_ne (fun z => by cases z; rcases k10 with z | z <;> exact z rfl)
        have x5 : jx_st hh 5 0 f k i = hh k i := jx_st_ne (fun z => by cases z; exact k5 rfl)
        rw [x7, x4, x10, x5]
      · exact h2
      · intro p' hp'
        have x4 : jx_st (jx_st (jx_st hh 5 0 f) 10 0 c) 4 p f2 4 p' = jx_st (jx_st hh 5 0 f) 10 0 c 4 p' := jx_st_ne (fun z => by cases z; omega)
        show jx_st (jx_st (jx_st hh 5 0 f) 10 0 c) 4 p f2 4 p' = h 4 p'
        rw [x4]
        exact h3 p' (by omega)
      · intro p' hp'
        show LN (jx_st (jx_st (jx_st hh 5 0 f) 10 0 c) 4 p f2 4 p') _
        by_cases hpp : p' = p
        · subst hpp
          rw [jx_st_same]
          exact hf2
        · have x4 : jx_st (jx_st (jx_st hh 5 0 f) 10 0 c) 4 p f2 4 p' = jx_st (jx_st hh 5 0 f) 10 0 c 4 p' := jx_st_ne (fun z => by cases z; exact hpp rfl)
          rw [x4]
          exact h4 p' (by omega)
      · exact ⟨s7, hc7⟩
      · exact ⟨s8, ha2⟩)
  refine rule (Nat.beq 39) 40 0 _ _ _ ?_
  refine pk_eq len 0 (fun q => absurd q hl0) (fun _ => ?_) hl rfl
  refine And.intro (by decide) ?_
  have en : (h 0 0 1 + nI 20 - nI 1) / nI 20 = nI n := by
    rw [hl, nI_add, pk_sub (by omega), pk_div (by omega) (by decide) (by decide), show len + 20 - 1 = len + 19 by omega, ← hne]
  refine jv_to (V := V) (loop 0 (Nat.zero_le _) (jx_st h 0 0 (upd (h 0 0) 3 (nI (n + 2)))) ?_ rfl (fun p' _ => rfl) (fun p' hp' => absurd hp' (Nat.not_lt_zero _)) ⟨s0, hc⟩ ⟨s1, hs⟩) (congrArg (fun z => [some (jR 0 0), some (jI z), some (jI (nI 0))]) en) rfl ?_
  · intro k i k0 _ _ _ _
    exact jx_st_ne (fun z => by cases z; exact k0 rfl)
  · show jx_st h 0 0 (upd (h 0 0) 3 ((h 0 0 1 + nI 20 - nI 1) / nI 20 + nI 2)) = _
    rw [en, nI_add]
end
section
/-! The reference: its field, its small calls. -/
def mp9 (a b : Nat) : Nat → Nat
  | 0 => 0
  | k + 1 => mp9 a b k ^^^ (if b / 2 ^ k % 2 = 1 then a * 2 ^ k else 0)
def mr9 (p : Nat) : Nat → Nat
  | 0 => p
  | n + 1 => if mr9 p n / 2 ^ (6 - n) % 2 = 1 then mr9 p n ^^^ (19 * 2 ^ (2 - n)) else mr9 p n
theorem mr9_ml : ∀ a, a < 16 → ∀ b, b < 16 → mr9 (mp9 a b 4) 3 = gf_ml a b := by decide +kernel
theorem mr9_lt : ∀ a, a < 16 → ∀ b, b < 16 → ∀ n, n < 4 → mr9 (mp9 a b 4) n < 128 := by decide +kernel
theorem S_M_product {a b : Nat} {h : jxH} (ha : a < 16) (hb : b < 16) : jx_MW 35 [jR 20 0, jI (nI a), jI (nI b)] h (fun r h' => r = nI (gf_ml a b) ∧ h' = h) := by
  refine jx_MW_by [some (jR 20 0), some (jI (nI a)), some (jI (nI b)), none, none] (by decide) rfl (Nat.le_of_ble_eq_true rfl) (fun V rule => ?_)
  have loop2 := jl_up (P := fun n => V 42 [some (jR 20 0), some (jI (nI a)), some (jI (nI b)), some (jI (nI (mr9 (mp9 a b 4) n))), some (jI (nI (6 - n)))] [] h) 3
    (by
      refine rule (fun _ => false) 10 42 _ _ _ ?_
      refine pk_le 3 3 (fun _ => ?_) (fun q => absurd q (Nat.lt_irrefl _))
      exact And.intro (by rw [mr9_ml a ha b hb]) rfl)
    (fun n hn ih => by
      refine rule (Nat.beq 42) 40 42 _ _ _ ?_
      refine pk_le (6 - n) 3 (fun q => absurd q (by omega)) (fun _ => ?_)
      have hl := mr9_lt a ha b hb n (by omega)
      refine pk_eq (mr9 (mp9 a b 4) n / 2 ^ (6 - n) % 2) 1 (fun q => ?_) (fun q => ?_) (by rw [jn_shr (by omega) (by omega), jn_and, Nat.and_one_is_mod]) rfl
      · have hp : 2 ^ (2 - n) ≤ 2 ^ 2 := Nat.pow_le_pow_right (by decide) (by omega)
        have e : nI 19 <<< (nI (6 - n) - nI 4 &&& 31) = nI (19 * 2 ^ (2 - n)) := by
          rw [pk_sub (by omega), show 6 - n - 4 = 2 - n by omega, jn_shl (by omega) (by omega)]
        exact jv_to (V := V) ih (by rw [e, jn_xor, jn_dec (by omega), show 6 - n - 1 = 6 - (n + 1) by omega, mr9, if_pos q]) rfl rfl
      · exact jv_to (V := V) ih (by rw [jn_dec (by omega), show 6 - n - 1 = 6 - (n + 1) by omega, mr9, if_neg q]) rfl rfl)
  have loop1 := jl_up (P := fun k => V 5 [some (jR 20 0), some (jI (nI a)), some (jI (nI b)), some (jI (nI (mp9 a b k))), some (jI (nI k))] [] h) 4
    (by
      refine rule (Nat.beq 42) 10 5 _ _ _ ?_
      refine pk_le 4 4 (fun _ => ?_) (fun q => absurd q (Nat.lt_irrefl _))
      exact loop2 0 (Nat.zero_le _))
    (fun k hk ih => by
      refine rule (Nat.beq 5) 40 5 _ _ _ ?_
      refine pk_le 4 k (fun q => absurd q (by omega)) (fun _ => ?_)
      refine pk_eq (b / 2 ^ k % 2) 1 (fun q => ?_) (fun q => ?_) (by rw [jn_shr (by omega) (by omega), jn_and, Nat.and_one_is_mod]) rfl
      · have hp : 2 ^ k ≤ 2 ^ 4 := Nat.pow_le_pow_right (by decide) (by omega)
        have hp2 : a * 2 ^ k ≤ 15 * 2 ^ 4 := Nat.mul_le_mul (by omega) hp
        exact jv_to (V := V) ih (by rw [jn_shl (by omega) (by omega), jn_xor, nI_add, mp9, if_pos q]) rfl rfl
      · exact jv_to (V := V) ih (by rw [show nI (mp9 a b k) ^^^ nI 0 = nI (mp9 a b k ^^^ 0) from jn_xor _ _, nI_add, mp9, if_neg q]) rfl rfl)
  refine rule (Nat.beq 5) 10 0 _ _ _ ?_
  exact loop1 0 (Nat.zero_le _)
theorem S_M_of {e : Nat} {h : jxH} (hw : AR (h 23 0) 15 16 gf_pw) (he : e < 2 ^ 31) : jx_MW 33 [jR 20 0, jI (nI e)] h (fun r h' => r = nI (gf_pw e) ∧ h' = h) := by
  refine jx_MW_by [some (jR 20 0), some (jI (nI e))] (by decide) rfl (Nat.le_of_ble_eq_true rfl) (fun V rule => ?_)
  refine rule (fun _ => false) 10 0 _ _ _ ?_
  refine And.intro (by decide) ?_
  refine Exists.intro (e % 15) (And.intro (And.intro (Nat.mod_lt _ (by decide)) (jn_rem he (by decide) (by decide))) ?_)
  exact And.intro (by rw [hw.at (Nat.mod_lt _ (by decide)), gf_pw_mod]) rfl
theorem gf_qt_ml : ∀ a, a < 16 → ∀ b, b < 16 → ¬ b = 0 → gf_ml (gf_qt a b) b = a := by decide +kernel
theorem gf_qt_un : ∀ a, a < 16 → ∀ b, b < 16 → ¬ b = 0 → ∀ q, q < 16 → gf_ml q b = a → q = gf_qt a b := by decide +kernel
theorem S_M_quotient {a b : Nat} {h : jxH} (ha : a < 16) (hb : b < 16) (hb0 : ¬ b = 0) : jx_MW 73 [jR 20 0, jI (nI a), jI (nI b)] h (fun r h' => r = nI (gf_qt a b) ∧ h' = h) := by
  refine jx_MW_by [some (jR 20 0), some (jI (nI a)), some (jI (nI b)), none] (by decide) rfl (Nat.le_of_ble_eq_true rfl) (fun V rule => ?_)
  have hq9 := gf_qt_lt a b
  have loop := jl_up (P := fun q => V 2 [some (jR 20 0), some (jI (nI a)), some (jI (nI b)), some (jI (nI q))] [] h) (gf_qt a b)
    (by
      refine rule (fun _ => false) 20 2 _ _ _ ?_
      refine jx_cal (S_M_product hq9 hb) rfl (fun r h' hq => ?_)
      obtain ⟨rfl, rfl⟩ := hq
      refine pk_eq a a (fun _ => ?_) (fun q => absurd rfl q) (by rw [gf_qt_ml a ha b hb hb0]) rfl
      exact And.intro rfl rfl)
    (fun q hq ih => by
      refine rule (Nat.beq 2) 20 2 _ _ _ ?_
      refine jx_cal (S_M_product (show q < 16 by omega) hb) rfl (fun r h' hq2 => ?_)
      obtain ⟨rfl, rfl⟩ := hq2
      have hl := gf_ml_lt q b
      refine pk_eq (gf_ml q b) a (fun z => ?_) (fun _ => ?_)
      · exact absurd (gf_qt_un a ha b hb hb0 q (by omega) z) (by omega)
      · exact jv_to (V := V) ih (by rw [nI_add]) rfl rfl)
  refine rule (Nat.beq 2) 10 0 _ _ _ ?_
  exact loop 0 (Nat.zero_le _)
/-- 'thrown' set -/
abbrev thr (h : jxH) (t : Nat) : jxH := jx_st h 20 0 (upd (h 20 0) 0 (nI t))
theorem S_M_thrown {h : jxH} : jx_MW 39 [jR 20 0] h (fun r h' => r = h 20 0 0 ∧ h' = h) := by
  refine jx_MW_by [some (jR 20 0)] (by decide) rfl (Nat.le_of_ble_eq_true rfl) (fun V rule => ?_)
  refine rule (fun _ => false) 10 0 _ _ _ ?_
  exact And.intro rfl rfl
theorem S_M_wipe {h : jxH} : jx_MW 41 [jR 20 0] h (fun r h' => r = h 20 0 1 ∧ h' = jx_st h 20 0 (upd (upd (h 20 0) 0 (nI 0)) 1 (nI 0))) := by
  refine jx_MW_by [some (jR 20 0), none] (by decide) rfl (Nat.le_of_ble_eq_true rfl) (fun V rule => ?_)
  refine rule (fun _ => false) 20 0 _ _ _ ?_
  exact And.intro rfl (by rw [jx_st_same, jx_st_st])
theorem S_M_missing {kp : Nat} {h : jxH} (hk : h 20 0 12 = nI kp) (hk9 : kp < 100) : jx_MW 31 [jR 20 0] h (fun r h' => r = (if kp = 0 then -nI 1 else h 20 0 13 + nI 2 - nI kp) ∧ h' = thr h 0) := by
  refine jx_MW_by [some (jR 20 0)] (by decide) rfl (Nat.le_of_ble_eq_true rfl) (fun V rule => ?_)
  refine rule (fun _ => false) 20 0 _ _ _ ?_
  refine pk_eq kp 0 (fun q => ?_) (fun q => ?_) hk rfl
  · exact And.intro (by rw [if_pos q]) rfl
  · refine And.intro ?_ rfl
    rw [if_neg q, ← hk]
    rfl
theorem S_M_load {b : Int32} {len : Nat} {h : jxH} (hl : h 20 0 1 = nI len) (hl9 : len ≤ 80) : jx_MW 30 [jR 20 0, jI b] h
    (fun r h' => (¬ (¬ b < 0 ∧ b ≤ nI 255) → h' = thr h 1) ∧ ((¬ b < 0 ∧ b ≤ nI 255) → len = 80 → h' = thr h 2) ∧ ((¬ b < 0 ∧ b ≤ nI 255) → len < 80 → r = nI (len + 1) ∧ h' = jx_st (jx_st h 21 0 (upd (h 21 0) len b)) 20 0 (upd (upd (h 20 0) 0 (nI 0)) 1 (nI (len + 1))))) := by
  refine jx_MW_by [some (jR 20 0), some (jI b)] (by decide) rfl (Nat.le_of_ble_eq_true rfl) (fun V rule => ?_)
  refine rule (fun _ => false) 60 0 _ _ _ ?_
  refine br_c (fun q => ?_) (fun q => ?_)
  · refine pk_eq 1 0 (fun z => absurd z (by decide)) (fun _ => ?_)
    exact And.intro (fun _ => rfl) (And.intro (fun z => absurd q z.1) (fun z => absurd q z.1))
  · refine br_c (fun q1 => ?_) (fun q1 => ?_)
    · refine pk_eq len 80 (fun q2 => ?_) (fun q2 => ?_) hl rfl
      · refine pk_eq 2 0 (fun z => absurd z (by decide)) (fun _ => ?_)
        exact And.intro (fun z => absurd ⟨q, q1⟩ z) (And.intro (fun _ _ => rfl) (fun _ z => absurd z (by omega)))
      · refine pk_eq 0 0 (fun _ => ?_) (fun z => absurd rfl z)
        refine Exists.intro len (And.intro (And.intro (by omega) hl) ?_)
        refine And.intro (fun z => absurd ⟨q, q1⟩ z) (And.intro (fun _ z => absurd z (by omega)) (fun _ _ => And.intro ?_ ?_))
        · show h 20 0 1 + nI 1 = _
          rw [hl, nI_add]
        · show jx_st (jx_st (jx_st h 20 0 (upd (h 20 0) 0 (nI 0))) 21 0 (upd (h 21 0) len b)) 20 0 (upd (upd (h 20 0) 0 (nI 0)) 1 (h 20 0 1 + nI 1)) = _
          rw [hl, nI_add, jx_sc (show 20 ≠ 21 by decide), jx_st_st]
    · refine pk_eq 1 0 (fun z => absurd z (by decide)) (fun _ => ?_)
      exact And.intro (fun _ => rfl) (And.intro (fun z => absurd z.2 q1) (fun z => absurd z.2 q1))
theorem S_M_errors {r : Int32} {h : jxH} : jx_MW 27 [jR 20 0, jI r] h (fun q h' => (hp9 r 4 = true → (∀ j, j < 4 → r = nI j → q = h 29 0 j) ∧ h' = thr h 0) ∧ (hp9 r 4 = false → h' = thr h 1)) := by
  refine jx_MW_by [some (jR 20 0), some (jI r)] (by decide) rfl (Nat.le_of_ble_eq_true rfl) (fun V rule => ?_)
  refine rule (fun _ => false) 40 0 _ _ _ ?_
  refine br_c (fun q => ?_) (fun q => ?_)
  · refine pk_eq 1 0 (fun z => absurd z (by decide)) (fun _ => ?_)
    exact And.intro (fun z => by simp [hp9, q] at z) (fun _ => rfl)
  · have e0 : r ≤ nI 3 ↔ r < nI 4 := by
      rw [Int32.le_iff_toInt_le, Int32.lt_iff_toInt_lt, show (nI 3).toInt = 3 from nI_toInt (by decide), show (nI 4).toInt = 4 from nI_toInt (by decide)]
      omega
    refine br_c (fun q1 => ?_) (fun q1 => ?_)
    · have e : hp9 r 4 = true := by
        have q2 : r < nI 4 := e0.mp q1
        simp [hp9, q, q2]
      obtain ⟨j, hj, rfl⟩ := hp9_t (by decide) e
      refine pk_eq 0 0 (fun _ => ?_) (fun z => absurd rfl z)
      refine Exists.intro j (And.intro (And.intro hj rfl) ?_)
      refine And.intro (fun _ => And.intro (fun j2 hj2 ej => ?_) rfl) (fun z => absurd (e.symm.trans z) (by decide))
      rw [← jn_inj (by omega) (by omega) ej]
      rfl
    · have q2 : ¬ r < nI 4 := fun z => q1 (e0.mpr z)
      refine pk_eq 1 0 (fun z => absurd z (by decide)) (fun _ => ?_)
      exact And.intro (fun z => by simp [hp9, q2] at z) (fun _ => rfl)
theorem S_M_out {i : Int32} {rl : Nat} {h : jxH} (hr : h 20 0 17 = nI rl) (hr9 : rl ≤ 80) : jx_MW 34 [jR 20 0, jI i] h (fun q h' => (hp9 i rl = true → (∀ j, j < rl → i = nI j → q = h 32 0 j) ∧ h' = thr h 0) ∧ (hp9 i rl = false → h' = thr h 1)) := by
  refine jx_MW_by [some (jR 20 0), some (jI i)] (by decide) rfl (Nat.le_of_ble_eq_true rfl) (fun V rule => ?_)
  refine rule (fun _ => false) 40 0 _ _ _ ?_
  refine br_c (fun q => ?_) (fun q => ?_)
  · refine pk_eq 1 0 (fun z => absurd z (by decide)) (fun _ => ?_)
    exact And.intro (fun z => by simp [hp9, q] at z) (fun _ => rfl)
  · refine br_c (fun q1 => ?_) (fun q1 => ?_)
    · have e : hp9 i rl = true := by
        have q2 : i < nI rl := by rw [← hr]; exact q1
        simp [hp9, q, q2]
      obtain ⟨j, hj, rfl⟩ := hp9_t (by omega) e
      refine pk_eq 0 0 (fun _ => ?_) (fun z => absurd rfl z)
      refine Exists.intro j (And.intro (And.intro (by omega) rfl) ?_)
      refine And.intro (fun _ => And.intro (fun j2 hj2 ej => ?_) rfl) (fun z => absurd (e.symm.trans z) (by decide))
      rw [← jn_inj (by omega) (by omega) ej]
      rfl
    · have q2 : ¬ i < nI rl := by rw [← hr]; exact q1
      refine pk_eq 1 0 (fun z => absurd z (by decide)) (fun _ => ?_)
      exact And.intro (fun z => by simp [hp9, q2] at z) (fun _ => rfl)
theorem S_M_reset {h : jxH} : jx_MW 36 [jR 20 0] h (fun r h' => r = h 20 0 12 ∧ ∃ f, h' = jx_st (jx_st h 20 0 (upd (upd (upd (h 20 0) 0 (nI 0)) 12 (nI 0)) 17 (nI 0))) 30 0 f ∧ BA f 6 (fun _ => false)) := by
  refine jx_MW_by [some (jR 20 0), none, none] (by decide) rfl (Nat.le_of_ble_eq_true rfl) (fun V rule => ?_)
  have loop := jl_up (P := fun i => ∀ f : Nat → Int32, (∀ k, k < i → f k = nI 0) → V 22 [some (jR 20 0), some (jI (h 20 0 12)), some (jI (nI i))] [] (jx_st (jx_st h 20 0 (upd (upd (upd (h 20 0) 0 (nI 0)) 12 (nI 0)) 17 (nI 0))) 30 0 f)) 6
    (by
      intro f hf
      refine rule (fun _ => false) 10 22 _ _ _ ?_
      refine pk_le 6 6 (fun _ => ?_) (fun q => absurd q (Nat.lt_irrefl _))
      exact And.intro rfl (Exists.intro f (And.intro rfl hf)))
    (fun i hi ih => by
      intro f hf
      refine rule (Nat.beq 22) 20 22 _ _ _ ?_
      refine pk_le 6 i (fun q => absurd q (by omega)) (fun _ => ?_)
      refine Exists.intro i (And.intro (And.intro hi (And.intro rfl (Or.inl rfl))) ?_)
      refine jv_to (V := V) (ih (upd f i (nI 0)) (fun k hk => ?_)) (by rw [nI_add]) rfl (by rw [jx_st_same, jx_st_st])
      by_cases hki : k = i
      · subst hki; exact upd_same _ _ _
      · rw [upd_ne _ _ hki]; exact hf k (by omega))
  refine rule (Nat.beq 22) 20 0 _ _ _ ?_
  refine jv_to (V := V) (loop 0 (Nat.zero_le _) (h 30 0) (fun k hk => absurd hk (Nat.not_lt_zero _))) rfl rfl ?_
  rw [jx_st_same, jx_st_st, jx_st_same, jx_st_st]
  exact (jx_st_id _ 30 0).symm
theorem hp18 (x : Int32) : nI 17 < x ↔ ¬ x < nI 18 := by
  rw [Int32.lt_iff_toInt_lt, Int32.lt_iff_toInt_lt, show (nI 17).toInt = 17 from nI_toInt (by decide), show (nI 18).toInt = 18 from nI_toInt (by decide)]
  omega
theorem S_M_noDot {pg x y : Int32} {P : Nat} {h : jxH} (hP : h 20 0 3 = nI P) : jx_MW 32 [jR 20 0, jI pg, jI x, jI y] h (fun r h' => r = nI (!hd9 pg x y P).toNat ∧ h' = h) := by
  refine jx_MW_by [some (jR 20 0), some (jI pg), some (jI x), some (jI y)] (by decide) rfl (Nat.le_of_ble_eq_true rfl) (fun V rule => ?_)
  refine rule (fun _ => false) 40 0 _ _ _ ?_
  refine br_c (fun q1 => ?_) (fun q1 => ?_)
  · exact And.intro (Or.inr rfl) (And.intro (by simp [hd9, hp9, q1]) rfl)
  refine br_c (fun q2 => ?_) (fun q2 => ?_)
  · have z : ¬ pg < nI P := by rw [← hP]; exact Int32.not_lt.mpr q2
    exact And.intro (Or.inr rfl) (And.intro (by simp [hd9, hp9, z]) rfl)
  refine br_c (fun q3 => ?_) (fun q3 => ?_)
  · exact And.intro (Or.inr rfl) (And.intro (by simp [hd9, hp9, q3]) rfl)
  refine br_c (fun q4 => ?_) (fun q4 => ?_)
  · have z : ¬ x < nI 18 := (hp18 x).mp q4
    exact And.intro (Or.inr rfl) (And.intro (by simp [hd9, hp9, z]) rfl)
  refine br_c (fun q5 => ?_) (fun q5 => ?_)
  · exact And.intro (Or.inr rfl) (And.intro (by simp [hd9, hp9, q5]) rfl)
  have z2 : pg < nI P := by rw [← hP]; exact Int32.not_le.mp q2
  have z4 : x < nI 18 := Classical.byContradiction (fun z => q4 ((hp18 x).mpr z))
  refine br_c (fun q6 => ?_) (fun q6 => ?_)
  · have z6 : y < nI 18 := Classical.byContradiction (fun z => Int32.not_lt.mpr q6 ((hp18 y).mpr z))
    exact And.intro (Or.inl rfl) (And.intro (by simp [hd9, hp9, q1, z2, q3, z4, q5, z6]) rfl)
  · have z6 : ¬ y < nI 18 := (hp18 y).mp (Int32.not_le.mp q6)
    exact And.intro (Or.inr rfl) (And.intro (by simp [hd9, hp9, z6]) rfl)
end
section
/-! The reference: symbols, payload, data, sums. -/
theorem S_M_frame {x y : Nat} {h : jxH} (hx : x < 18) (hy : y < 18) : jx_MW 28 [jR 20 0, jI (nI x), jI (nI y)] h (fun r h' => r = nI (fr x y).toNat ∧ h' = h) := by
  refine jx_MW_by [some (jR 20 0), some (jI (nI x)), some (jI (nI y))] (by decide) rfl (Nat.le_of_ble_eq_true rfl) (fun V rule => ?_)
  refine rule (fun _ => false) 40 0 _ _ _ ?_
  refine pk_eq x 0 (fun q1 => ?_) (fun q1 => ?_)
  · refine And.intro (Or.inr rfl) (And.intro ?_ rfl)
    simp [fr, q1]
  refine pk_eq y 0 (fun q2 => ?_) (fun q2 => ?_)
  · refine And.intro (Or.inr rfl) (And.intro ?_ rfl)
    simp [fr, q2]
  refine pk_eq x 17 (fun q3 => ?_) (fun q3 => ?_)
  · refine And.intro (by decide) ?_
    refine pk_eq (y % 2) 0 (fun q4 => ?_) (fun q4 => ?_) (jn_rem (by omega) (by decide) (by decide)) rfl
    · refine And.intro (Or.inr rfl) (And.intro ?_ rfl)
      simp [fr, q3, q4]
    refine pk_eq y 17 (fun q5 => ?_) (fun q5 => ?_)
    · refine And.intro (by decide) ?_
      refine pk_eq (x % 2) 0 (fun q6 => ?_) (fun q6 => ?_) (jn_rem (by omega) (by decide) (by decide)) rfl
      · refine And.intro (Or.inr rfl) (And.intro ?_ rfl)
        simp [fr, q5, q6]
      · refine And.intro (Or.inl rfl) (And.intro ?_ rfl)
        simp [fr, q1, q2, q3, q4, q5, q6]
    · refine And.intro (Or.inl rfl) (And.intro ?_ rfl)
      simp [fr, q1, q2, q3, q4, q5]
  · refine pk_eq y 17 (fun q5 => ?_) (fun q5 => ?_)
    · refine And.intro (by decide) ?_
      refine pk_eq (x % 2) 0 (fun q6 => ?_) (fun q6 => ?_) (jn_rem (by omega) (by decide) (by decide)) rfl
      · refine And.intro (Or.inr rfl) (And.intro ?_ rfl)
        simp [fr, q5, q6]
      · refine And.intro (Or.inl rfl) (And.intro ?_ rfl)
        simp [fr, q1, q2, q3, q5, q6]
    · refine And.intro (Or.inl rfl) (And.intro ?_ rfl)
      simp [fr, q1, q2, q3, q5]
theorem S_M_bit {a k : Nat} {b : Nat → Bool} {h : jxH} (hb : BA (h 24 0) 324 b) (ha : a < 324) (hk : k < 4) : jx_MW 26 [jR 20 0, jI (nI a), jI (nI k)] h (fun r h' => r = nI (if b a = true then 2 ^ k else 0) ∧ h' = h) := by
  refine jx_MW_by [some (jR 20 0), some (jI (nI a)), some (jI (nI k))] (by decide) rfl (Nat.le_of_ble_eq_true rfl) (fun V rule => ?_)
  refine rule (fun _ => false) 40 0 _ _ _ ?_
  refine Exists.intro a (And.intro (And.intro ha rfl) ?_)
  refine pk_eq (b a).toNat 0 (fun q => ?_) (fun q => ?_) (hb a ha) rfl (by have := toNat_le (b a); omega) (by decide)
  · exact And.intro (by rw [tn0 q]; rfl) rfl
  · have hp : 2 ^ k ≤ 2 ^ 4 := Nat.pow_le_pow_right (by decide) (by omega)
    exact And.intro (by rw [if_pos (tn1 q), jn_shl (by omega) (by rw [Nat.one_mul]; omega), Nat.one_mul]) rfl
theorem S_M_symbolOf {k m len : Nat} {dc : Nat → Nat} {h : jxH} (hl : h 20 0 1 = nI len) (hl9 : len ≤ 80) (hd : AR (h 21 0) 80 256 dc) (hk : k < 10) (hm : m < 40) : jx_MW 38 [jR 20 0, jI (nI k), jI (nI m)] h (fun r h' => r = nI (ds dc len k m) ∧ h' = h) := by
  refine jx_MW_by [some (jR 20 0), some (jI (nI k)), some (jI (nI m)), none] (by decide) rfl (Nat.le_of_ble_eq_true rfl) (fun V rule => ?_)
  refine rule (fun _ => false) 40 0 _ _ _ ?_
  refine And.intro (by decide) ?_
  have ep : nI 20 * nI k + nI m / nI 2 = nI (k * 20 + m / 2) := by rw [pk_mul, pk_div (by omega) (by decide) (by decide), nI_add, Nat.mul_comm]
  refine pk_lt (k * 20 + m / 2) len (fun q => ?_) (fun q => ?_) ep hl
  · refine And.intro (by decide) ?_
    have hdl := hd.lt (show k * 20 + m / 2 < 80 by omega)
    have hda := hd.at (show k * 20 + m / 2 < 80 by omega)
    refine pk_eq (m % 2) 0 (fun q1 => ?_) (fun q1 => ?_) (jn_rem (by omega) (by decide) (by decide)) rfl
    · refine Exists.intro (k * 20 + m / 2) (And.intro (And.intro (by omega) ep) ?_)
      refine And.intro ?_ rfl
      rw [hda, ds, if_pos q, if_pos q1, jn_and]
      exact congrArg nI (Nat.and_two_pow_sub_one_eq_mod _ 4)
    · refine Exists.intro (k * 20 + m / 2) (And.intro (And.intro (by omega) ep) ?_)
      refine And.intro ?_ rfl
      rw [hda, ds, if_pos q, if_neg q1]
      exact jn_shr (k := 4) (by decide) (by omega)
  · refine And.intro ?_ rfl
    rw [ds, if_neg (by omega)]
theorem S_M_payload {pg n m len : Nat} {dc : Nat → Nat} {h : jxH} (hw : AR (h 23 0) 15 16 gf_pw) (hl : h 20 0 1 = nI len) (hl9 : len ≤ 80) (hd : AR (h 21 0) 80 256 dc) (hn : n ≤ 4) (hpg : pg ≤ n + 1) (hm : m < 40) : jx_MW 72 [jR 20 0, jI (nI pg), jI (nI n), jI (nI m)] h (fun r h' => r = nI (pv dc len n pg m) ∧ h' = h) := by
  refine jx_MW_by [some (jR 20 0), some (jI (nI pg)), some (jI (nI n)), some (jI (nI m)), none, none] (by decide) rfl (Nat.le_of_ble_eq_true rfl) (fun V rule => ?_)
  have hds : ∀ k, ds dc len k m < 16 := fun k => ds_lt hl9 (fun i hi => hd.lt hi)
  by_cases hpn : pg < n
  · refine rule (fun _ => false) 20 0 _ _ _ ?_
    refine pk_le n pg (fun q => absurd q (by omega)) (fun _ => ?_)
    refine jx_cal (S_M_symbolOf hl hl9 hd (by omega) hm) rfl (fun r h' hq => ?_)
    obtain ⟨rfl, rfl⟩ := hq
    exact And.intro (by rw [pv, if_pos hpn]) rfl
  · have loop := jl_up (P := fun k => V 18 [some (jR 20 0), some (jI (nI pg)), some (jI (nI n)), some (jI (nI m)), some (jI (nI (xs (if pg = n then (fun k => ds dc len k m) else wt (fun k => ds dc len k m)) k))), some (jI (nI k))] [] h) n
      (by
        refine rule (fun _ => false) 20 18 _ _ _ ?_
        refine pk_le n n (fun _ => ?_) (fun q => absurd q (Nat.lt_irrefl _))
        refine And.intro ?_ rfl
        rw [pv, if_neg hpn]
        by_cases hpe : pg = n
        · rw [if_pos hpe, if_pos hpe]
        · rw [if_neg hpe, if_neg hpe])
      (fun k hk ih => by
        refine rule (Nat.beq 18) 40 18 _ _ _ ?_
        refine pk_le n k (fun q => absurd q (by omega)) (fun _ => ?_)
        refine pk_eq pg n (fun q => ?_) (fun q => ?_)
        · refine jx_cal (S_M_symbolOf hl hl9 hd (by omega) hm) rfl (fun r h' hq => ?_)
          obtain ⟨rfl, rfl⟩ := hq
          refine jv_to (V := V) ih ?_ rfl rfl
          rw [if_pos q, jn_xor, nI_add]
          rfl
        · refine jx_cal (S_M_of hw (e := k) (by omega)) rfl (fun r h' hq => ?_)
          obtain ⟨rfl, rfl⟩ := hq
          refine jx_cal (S_M_symbolOf hl hl9 hd (by omega) hm) rfl (fun r h' hq => ?_)
          obtain ⟨rfl, rfl⟩ := hq
          refine jx_cal (S_M_product (gf_pw_lt k) (hds k)) rfl (fun r h' hq => ?_)
          obtain ⟨rfl, rfl⟩ := hq
          refine jv_to (V := V) ih ?_ rfl rfl
          rw [if_neg q, jn_xor, nI_add]
          rfl)
    refine rule (Nat.beq 18) 20 0 _ _ _ ?_
    refine pk_le n pg (fun _ => ?_) (fun q => absurd q (by omega))
    exact loop 0 (Nat.zero_le _)
theorem S_M_dataOf {pg n k len : Nat} {dc : Nat → Nat} {h : jxH} (hw : AR (h 23 0) 15 16 gf_pw) (hl : h 20 0 1 = nI len) (hl9 : len ≤ 80) (hd : AR (h 21 0) 80 256 dc) (hn : n ≤ 4) (hpg : pg ≤ n + 1) (hk : k < 44) : jx_MW 89 [jR 20 0, jI (nI pg), jI (nI n), jI (nI k)] h (fun r h' => r = nI (dta dc len n pg k) ∧ h' = h) := by
  refine jx_MW_by [some (jR 20 0), some (jI (nI pg)), some (jI (nI n)), some (jI (nI k))] (by decide) rfl (Nat.le_of_ble_eq_true rfl) (fun V rule => ?_)
  refine rule (fun _ => false) 40 0 _ _ _ ?_
  refine pk_eq k 0 (fun q0 => ?_) (fun q0 => ?_)
  · exact And.intro (by rw [dta, if_pos q0]) rfl
  refine pk_eq k 1 (fun q1 => ?_) (fun q1 => ?_)
  · exact And.intro (by rw [dta, if_neg q0, if_pos q1]) rfl
  refine pk_eq k 2 (fun q2 => ?_) (fun q2 => ?_)
  · refine And.intro (by decide) (And.intro ?_ rfl)
    rw [dta, if_neg q0, if_neg q1, if_pos q2, hl]
    exact jn_rem (by omega) (by decide) (by decide)
  refine pk_eq k 3 (fun q3 => ?_) (fun q3 => ?_)
  · refine And.intro (by decide) (And.intro ?_ rfl)
    rw [dta, if_neg q0, if_neg q1, if_neg q2, if_pos q3, hl]
    exact pk_div (by omega) (by decide) (by decide)
  refine jx_cal (S_M_payload (m := k - 4) hw hl hl9 hd hn hpg (by omega)) (by rw [show nI k - nI 4 = nI (k - 4) from pk_sub (show 4 ≤ k by omega)]) (fun r h' hq => ?_)
  obtain ⟨rfl, rfl⟩ := hq
  exact And.intro (by rw [dta, if_neg q0, if_neg q1, if_neg q2, if_neg q3]) rfl
theorem S_M_sumAt {j : Nat} {s : Nat → Nat} {h : jxH} (hw : AR (h 23 0) 15 16 gf_pw) (hs : AR (h 26 0) 15 16 s) (hj : j < 4) : jx_MW 74 [jR 20 0, jI (nI (j + 1))] h (fun r h' => r = nI (sy s j) ∧ h' = h) := by
  refine jx_MW_by [some (jR 20 0), some (jI (nI (j + 1))), none, none] (by decide) rfl (Nat.le_of_ble_eq_true rfl) (fun V rule => ?_)
  have loop := jl_up (P := fun n => V 4 [some (jR 20 0), some (jI (nI (j + 1))), some (jI (nI (xs (fun i => gf_ml (s i) (gf_pw (i * (j + 1)))) n))), some (jI (nI n))] [] h) 15
    (by
      refine rule (fun _ => false) 20 4 _ _ _ ?_
      refine pk_le 15 15 (fun _ => ?_) (fun q => absurd q (Nat.lt_irrefl _))
      exact And.intro rfl rfl)
    (fun n hn ih => by
      refine rule (Nat.beq 4) 30 4 _ _ _ ?_
      refine pk_le 15 n (fun q => absurd q (by omega)) (fun _ => ?_)
      refine Exists.intro n (And.intro (And.intro hn rfl) ?_)
      have hnj : n * (j + 1) < 100 := Nat.lt_of_le_of_lt (Nat.mul_le_mul (show n ≤ 14 by omega) (show j + 1 ≤ 4 by omega)) (by decide)
      refine jx_cal (S_M_of hw (e := n * (j + 1)) (by omega)) (by rw [pk_mul]) (fun q h2 hq => ?_)
      obtain ⟨rfl, rfl⟩ := hq
      refine jx_cal (S_M_product (hs.lt hn) (gf_pw_lt _)) (by rw [hs.at hn]) (fun q h2 hq => ?_)
      obtain ⟨rfl, rfl⟩ := hq
      exact jv_to (V := V) ih (by rw [jn_xor, nI_add]; rfl) rfl rfl)
  refine rule (Nat.beq 4) 10 0 _ _ _ ?_
  exact loop 0 (Nat.zero_le _)
theorem or_0 {a b : Nat} : a ||| b = 0 ↔ a = 0 ∧ b = 0 := Nat.or_eq_zero_iff
theorem S_M_isWord {s : Nat → Nat} {h : jxH} (hw : AR (h 23 0) 15 16 gf_pw) (hs : AR (h 26 0) 15 16 s) : jx_MW 90 [jR 20 0] h (fun r h' => r = nI (decide (sy s 0 ||| sy s 1 ||| sy s 2 ||| sy s 3 = 0)).toNat ∧ h' = h) := by
  refine jx_MW_by [some (jR 20 0)] (by decide) rfl (Nat.le_of_ble_eq_true rfl) (fun V rule => ?_)
  refine rule (fun _ => false) 40 0 _ _ _ ?_
  have l0 := sy_lt s 0
  have l1 := sy_lt s 1
  have l2 := sy_lt s 2
  have l3 := sy_lt s 3
  refine jx_cal (S_M_sumAt (j := 0) hw hs (by decide)) rfl (fun q h2 hq => ?_)
  obtain ⟨rfl, rfl⟩ := hq
  refine pk_eq (sy s 0) 0 (fun q0 => ?_) (fun q0 => ?_)
  · refine jx_cal (S_M_sumAt (j := 1) hw hs (by decide)) rfl (fun q h2 hq => ?_)
    obtain ⟨rfl, rfl⟩ := hq
    refine pk_eq (sy s 1) 0 (fun q1 => ?_) (fun q1 => ?_)
    · refine jx_cal (S_M_sumAt (j := 2) hw hs (by decide)) rfl (fun q h2 hq => ?_)
      obtain ⟨rfl, rfl⟩ := hq
      refine pk_eq (sy s 2) 0 (fun q2 => ?_) (fun q2 => ?_)
      · refine jx_cal (S_M_sumAt (j := 3) hw hs (by decide)) rfl (fun q h2 hq => ?_)
        obtain ⟨rfl, rfl⟩ := hq
        refine pk_eq (sy s 3) 0 (fun q3 => ?_) (fun q3 => ?_)
        · exact And.intro (Or.inr rfl) (And.intro (by rw [q0, q1, q2, q3]; rfl) rfl)
        · exact And.intro (Or.inl rfl) (And.intro (by rw [decide_eq_false (fun z => q3 (or_0.mp z).2)]; rfl) rfl)
      · exact And.intro (Or.inl rfl) (And.intro (by rw [decide_eq_false (fun z => q2 (or_0.mp (or_0.mp z).1).2)]; rfl) rfl)
    · exact And.intro (Or.inl rfl) (And.intro (by rw [decide_eq_false (fun z => q1 (or_0.mp (or_0.mp (or_0.mp z).1).1).2)]; rfl) rfl)
  · exact And.intro (Or.inl rfl) (And.intro (by rw [decide_eq_false (fun z => q0 (or_0.mp (or_0.mp (or_0.mp z).1).1).1)]; rfl) rfl)
/-- e at i and f at k bring the sums -/
def ft1 (S : Nat → Nat) (i e k f j : Nat) : Bool := decide (S j = gf_ml e (gf_pw ((j + 1) * i)) ^^^ gf_ml f (gf_pw ((j + 1) * k)))
def fta (S : Nat → Nat) (i e k f : Nat) : Nat → Bool
  | 0 => true
  | j + 1 => fta S i e k f j && ft1 S i e k f j
theorem S_M_fits {i e k f : Nat} {S : Nat → Nat} {h : jxH} (hw : AR (h 23 0) 15 16 gf_pw) (hS : ∀ j, j < 4 → h 27 0 (j + 1) = nI (S j) ∧ S j < 16) (hi : i < 15) (he : e < 16) (hk : k < 15) (hf : f < 16) : jx_MW 67 [jR 20 0, jI (nI i), jI (nI e), jI (nI k), jI (nI f)] h (fun r h' => r = nI (fta S i e k f 4).toNat ∧ h' = h) := by
  refine jx_MW_by [some (jR 20 0), some (jI (nI i)), some (jI (nI e)), some (jI (nI k)), some (jI (nI f)), none, none] (by decide) rfl (Nat.le_of_ble_eq_true rfl) (fun V rule => ?_)
  have loop := jl_up (P := fun j => V 6 [some (jR 20 0), some (jI (nI i)), some (jI (nI e)), some (jI (nI k)), some (jI (nI f)), some (jI (nI (fta S i e k f j).toNat)), some (jI (nI (j + 1)))] [] h) 4
    (by
      refine rule (fun _ => false) 20 6 _ _ _ ?_
      refine pk_le 5 5 (fun _ => ?_) (fun q => absurd q (Nat.lt_irrefl _))
      have b01 : nI (fta S i e k f 4).toNat = nI 0 ∨ nI (fta S i e k f 4).toNat = nI 1 := by cases fta S i e k f 4; exact Or.inl rfl; exact Or.inr rfl
      exact And.intro b01 (And.intro rfl rfl))
    (fun j hj ih => by
      refine rule (Nat.beq 6) 60 6 _ _ _ ?_
      refine pk_le 5 (j + 1) (fun q => absurd q (by omega)) (fun _ => ?_)
      refine pk_eq (fta S i e k f j).toNat 0 (fun q => ?_) (fun q => ?_) rfl rfl (by have := toNat_le (fta S i e k f j); omega) (by decide)
      · exact jv_to (V := V) ih (by rw [nI_add, fta, tn0 q]; rfl) rfl rfl
      · refine Exists.intro (j + 1) (And.intro (And.intro (by omega) rfl) ?_)
        have hij : (j + 1) * i < 100 := Nat.lt_of_le_of_lt (Nat.mul_le_mul (show j + 1 ≤ 4 by omega) (show i ≤ 14 by omega)) (by decide)
        have hkj : (j + 1) * k < 100 := Nat.lt_of_le_of_lt (Nat.mul_le_mul (show j + 1 ≤ 4 by omega) (show k ≤ 14 by omega)) (by decide)
        refine jx_cal (S_M_of hw (e := (j + 1) * i) (by omega)) (by rw [pk_mul]) (fun q h2 hq => ?_)
        obtain ⟨rfl, rfl⟩ := hq
        refine jx_cal (S_M_product he (gf_pw_lt _)) rfl (fun q h2 hq => ?_)
        obtain ⟨rfl, rfl⟩ := hq
        refine jx_cal (S_M_of hw (e := (j + 1) * k) (by omega)) (by rw [pk_mul]) (fun q h2 hq => ?_)
        obtain ⟨rfl, rfl⟩ := hq
        refine jx_cal (S_M_product hf (gf_pw_lt _)) rfl (fun q h2 hq => ?_)
        obtain ⟨rfl, rfl⟩ := hq
        have x16 : gf_ml e (gf_pw ((j + 1) * i)) ^^^ gf_ml f (gf_pw ((j + 1) * k)) < 16 := gf_xor_lt (gf_ml_lt _ _) (gf_ml_lt _ _)
        have s16 := (hS j hj).2
        refine pk_eq (S j) (gf_ml e (gf_pw ((j + 1) * i)) ^^^ gf_ml f (gf_pw ((j + 1) * k))) (fun z => ?_) (fun z => ?_) (hS j hj).1 (by rw [jn_xor])
        · exact jv_to (V := V) ih (by rw [nI_add, fta, tn1 q, ft1, decide_eq_true z]; rfl) rfl rfl
        · exact jv_to (V := V) ih (by rw [nI_add, fta, tn1 q, ft1, decide_eq_false z]; rfl) rfl rfl)
  refine rule (Nat.beq 6) 10 0 _ _ _ ?_
  exact loop 0 (Nat.zero_le _)
end
section
/-! The reference: check symbols, correction. -/
theorem S_M_check {s : Nat → Nat} {h : jxH} (hs : ∀ k, 4 ≤ k → k < 15 → h 26 0 k = nI (s k)) (h15 : ∀ k, k < 15 → s k < 16) : jx_MW 65 [jR 20 0] h (fun _ h' => ∃ f, h' = jx_st h 26 0 f ∧ AR f 15 16 (cpn s 11)) := by
  refine jx_MW_by [some (jR 20 0), none, none, none, none, none, none] (by decide) rfl (Nat.le_of_ble_eq_true rfl) (fun V rule => ?_)
  have hb := fun n => cq_lt (s := s) h15 n
  have loop2 := jl_up (P := fun n => ∀ (o : Option jxV) (f : Nat → Int32), (∀ k, 4 ≤ k → k < 15 → f k = nI (s k)) → V 33 [some (jR 20 0), some (jI (nI (cq s n).1)), some (jI (nI (cq s n).2.1)), some (jI (nI (cq s n).2.2.1)), some (jI (nI (cq s n).2.2.2)), some (jI (nI (14 - n))), o] [] (jx_st h 26 0 f)) 11
    (by
      intro o f hf
      refine rule (fun _ => false) 60 33 _ _ _ ?_
      refine pk_le 3 3 (fun _ => ?_) (fun q => absurd q (Nat.lt_irrefl _))
      refine Exists.intro 3 (And.intro (And.intro (by decide) rfl) ?_)
      refine Exists.intro 2 (And.intro (And.intro (by decide) rfl) ?_)
      refine Exists.intro 1 (And.intro (And.intro (by decide) rfl) ?_)
      refine Exists.intro 0 (And.intro (And.intro (by decide) rfl) ?_)
      refine Exists.intro (upd (upd (upd (upd f 3 (nI (cq s 11).1)) 2 (nI (cq s 11).2.1)) 1 (nI (cq s 11).2.2.1)) 0 (nI (cq s 11).2.2.2)) (And.intro ?_ ?_)
      · rw [jx_st_same, jx_st_st, jx_st_same, jx_st_st, jx_st_same, jx_st_st, jx_st_same, jx_st_st]
      · intro k hk
        obtain ⟨b1, b2, b3, b4⟩ := hb 11
        unfold cpn
        by_cases k0 : k = 0
        · subst k0; rw [upd_same]; exact ⟨rfl, b4⟩
        rw [upd_ne _ _ k0, if_neg k0]
        by_cases k1 : k = 1
        · subst k1; rw [upd_same]; exact ⟨rfl, b3⟩
        rw [upd_ne _ _ k1, if_neg k1]
        by_cases k2 : k = 2
        · subst k2; rw [upd_same]; exact ⟨rfl, b2⟩
        rw [upd_ne _ _ k2, if_neg k2]
        by_cases k3 : k = 3
        · subst k3; rw [upd_same]; exact ⟨rfl, b1⟩
        rw [upd_ne _ _ k3, if_neg k3]
        exact ⟨hf k (by omega) hk, h15 k hk⟩)
    (fun n hn ih => by
      intro o f hf
      refine rule (Nat.beq 33) 80 33 _ _ _ ?_
      refine pk_le (14 - n) 3 (fun q => absurd q (by omega)) (fun _ => ?_)
      refine Exists.intro (14 - n) (And.intro (And.intro (by omega) rfl) ?_)
      obtain ⟨b1, b2, b3, b4⟩ := hb n
      have hc : s (14 - n) ^^^ (cq s n).1 < 16 := gf_xor_lt (h15 _ (by omega)) b1
      rw [jx_st_same, hf (14 - n) (by omega) (by omega)]
      have v : nI (cq s n).1 ^^^ nI (s (14 - n)) = nI (s (14 - n) ^^^ (cq s n).1) := by
        rw [jn_xor, Nat.xor_comm]
      refine jx_cal (S_M_product (b := 13) hc (by decide)) (congrArg (fun z => [jR 20 0, jI z, jI (nI 13)]) v) (fun q h2 hq => ?_)
      obtain ⟨rfl, rfl⟩ := hq
      refine jx_cal (S_M_product (b := 12) hc (by decide)) (congrArg (fun z => [jR 20 0, jI z, jI (nI 12)]) v) (fun q h2 hq => ?_)
      obtain ⟨rfl, rfl⟩ := hq
      refine jx_cal (S_M_product (b := 8) hc (by decide)) (congrArg (fun z => [jR 20 0, jI z, jI (nI 8)]) v) (fun q h2 hq => ?_)
      obtain ⟨rfl, rfl⟩ := hq
      refine jx_cal (S_M_product (b := 7) hc (by decide)) (congrArg (fun z => [jR 20 0, jI z, jI (nI 7)]) v) (fun q h2 hq => ?_)
      obtain ⟨rfl, rfl⟩ := hq
      refine jv_to (V := V) (ih (some (jI (nI (cq s n).1 ^^^ nI (s (14 - n))))) f hf) ?_ rfl rfl
      rw [jn_xor, jn_xor, jn_xor, jn_xor, jn_dec (by omega), show 14 - n - 1 = 14 - (n + 1) by omega, cq_succ])
  have loop1 := jl_up (P := fun i => ∀ f : Nat → Int32, (∀ k, 4 ≤ k → k < 15 → f k = nI (s k)) → V 2 [some (jR 20 0), some (jI (nI i)), none, none, none, none, none] [] (jx_st h 26 0 f)) 4
    (by
      intro f hf
      refine rule (Nat.beq 33) 30 2 _ _ _ ?_
      refine pk_le 4 4 (fun _ => ?_) (fun q => absurd q (Nat.lt_irrefl _))
      exact loop2 0 (Nat.zero_le _) none f hf)
    (fun i hi ih => by
      intro f hf
      refine rule (Nat.beq 2) 20 2 _ _ _ ?_
      refine pk_le 4 i (fun q => absurd q (by omega)) (fun _ => ?_)
      refine Exists.intro i (And.intro (And.intro (by omega) rfl) ?_)
      refine jv_to (V := V) (ih (upd f i (nI 0)) (fun k h4 hk => ?_)) (by rw [nI_add]) rfl (by rw [jx_st_same, jx_st_st])
      rw [upd_ne _ _ (by omega)]
      exact hf k h4 hk)
  refine rule (Nat.beq 2) 10 0 _ _ _ ?_
  exact jv_to (V := V) (loop1 0 (Nat.zero_le _) (h 26 0) hs) rfl rfl (jx_st_id h 26 0).symm
theorem gf_ml_cm (a b : Nat) : gf_ml a b = gf_ml b a := by
  unfold gf_ml
  by_cases ha : a = 0
  · rw [if_pos ha]
    by_cases hb : b = 0
    · rw [if_pos hb]
    · rw [if_neg hb, if_pos ha]
  · rw [if_neg ha]
    by_cases hb : b = 0
    · rw [if_pos hb, if_pos hb]
    · rw [if_neg hb, if_neg hb, if_neg ha, Nat.add_comm]
theorem gf_qt_pw : ∀ u, u < 16 → ∀ i, i < 15 → ∀ j, j < 4 → gf_ml (gf_qt u (gf_pw i)) (gf_pw ((j + 1) * i)) = gf_ml u (gf_pw (i * j)) := by decide +kernel
theorem gf_ml_1 : ∀ u, u < 16 → ∀ i, i < 15 → gf_ml u (gf_pw (i * 0)) = u := by decide +kernel
theorem gf_qt_2 : ∀ w, w < 16 → ∀ i, i < 15 → ∀ k, k < 15 → gf_qt w (gf_ml (gf_pw k) (gf_pw k ^^^ gf_pw i)) = gf_qt (gf_qt w (gf_pw i ^^^ gf_pw k)) (gf_pw k) := by decide +kernel
theorem gf_dv : ∀ i, i < 15 → ∀ k, k < 15 → i ≠ k → ¬ gf_ml (gf_pw k) (gf_pw k ^^^ gf_pw i) = 0 := by decide +kernel
theorem fta_aso {S : Nat → Nat} {i u k v : Nat} (hi : i < 15) (hk : k < 15) (hu : u < 16) (hv : v < 16) (h0 : S 0 = u ^^^ v) : fta S i (gf_qt u (gf_pw i)) k (gf_qt v (gf_pw k)) 4 = aso S i u k v := by
  have key : ∀ j, j < 4 → ft1 S i (gf_qt u (gf_pw i)) k (gf_qt v (gf_pw k)) j = as1 S i u k v j := by
    intro j hj
    rw [ft1, as1, gf_qt_pw u hu i hi j hj, gf_qt_pw v hv k hk j hj]
    exact decide_eq_decide.mpr eq_comm
  have k0 : as1 S i u k v 0 = true := by
    rw [as1, gf_ml_1 u hu i hi, gf_ml_1 v hv k hk, h0]
    exact decide_eq_true rfl
  show ((((true && ft1 S i (gf_qt u (gf_pw i)) k (gf_qt v (gf_pw k)) 0) && ft1 S i (gf_qt u (gf_pw i)) k (gf_qt v (gf_pw k)) 1) && ft1 S i (gf_qt u (gf_pw i)) k (gf_qt v (gf_pw k)) 2) && ft1 S i (gf_qt u (gf_pw i)) k (gf_qt v (gf_pw k)) 3) = _
  rw [key 0 (by decide), key 1 (by decide), key 2 (by decide), key 3 (by decide), k0, aso]
  cases as1 S i u k v 1 <;> cases as1 S i u k v 2 <;> cases as1 S i u k v 3 <;> rfl
theorem gf_qt_0 (b : Nat) : gf_qt 0 b = 0 := by simp [gf_qt]
theorem gf_pw_0 (e : Nat) : ¬ gf_pw e = 0 := Nat.ne_of_gt (gf_pw_pos e)
theorem xor_3 (a b : Nat) : a = (a ^^^ b) ^^^ b := by rw [Nat.xor_assoc, Nat.xor_self, Nat.xor_zero]
set_option maxHeartbeats 1000000 in
theorem S_M_correct {s : Nat → Nat} {h : jxH} (hw : AR (h 23 0) 15 16 gf_pw) (hs : AR (h 26 0) 15 16 s) : jx_MW 99 [jR 20 0] h (fun r h' => r = (cor s).1 ∧ ∃ f g, h' = jx_st (jx_st h 27 0 g) 26 0 f ∧ AR f 15 16 (cor s).2) := by
  refine jx_MW_by [some (jR 20 0), none, none, none, none] (by decide) rfl (Nat.le_of_ble_eq_true rfl) (fun V rule => ?_)
  by_cases c0 : sy s 0 ||| sy s 1 ||| sy s 2 ||| sy s 3 = 0
  · refine rule (fun _ => false) 20 0 _ _ _ ?_
    refine jx_cal (S_M_isWord hw hs) rfl (fun q h2 hq => ?_)
    obtain ⟨rfl, rfl⟩ := hq
    refine pk_eq 1 0 (fun q => absurd q (by decide)) (fun _ => ?_) (by simp [c0]) rfl
    have e : cor s = (nI 0, s) := by rw [cor, if_pos c0]
    rw [e]
    refine And.intro rfl (Exists.intro (h2 26 0) (Exists.intro (h2 27 0) (And.intro ?_ hs)))
    rw [jx_st_id, jx_st_id]
  have idn : ∀ g : Nat → Int32, jx_st h 27 0 g = jx_st (jx_st h 27 0 g) 26 0 (h 26 0) := fun g => (jx_st_id (jx_st h 27 0 g) 26 0).symm
  have two := fun (g : Nat → Int32) (hg : ∀ j, j < 4 → g (j + 1) = nI (sy s j) ∧ sy s j < 16) (e1 : c1 (sy s) = none) => jl_up (P := fun i => ∀ o2 o3 o4 : Option jxV, (∀ a, a < i → fst (q2 (sy s) a) (a + 1) (14 - a) = none) → V 92 [some (jR 20 0), some (jI (nI i)), o2, o3, o4] [] (jx_st h 27 0 g)) 15
    (by
      intro o2 o3 o4 hn
      refine rule (fun _ => false) 20 92 _ _ _ ?_
      refine pk_le 15 15 (fun _ => ?_) (fun q => absurd q (Nat.lt_irrefl _))
      have e2 : c2 (sy s) = none := fs2_none (fun k _ h2 => hn k (by omega))
      have e : cor s = (-nI 1, s) := by rw [cor, if_neg c0, e1, e2]
      rw [e]
      exact And.intro rfl (Exists.intro _ (Exists.intro g (And.intro (idn g) hs))))
    (fun i hi ih => by
      intro o2 o3 o4 hn
      have inner := jl_up (P := fun k => i + 1 ≤ k → ∀ o3 o4 : Option jxV, (∀ a, i + 1 ≤ a → a < k → q2 (sy s) i a = false) → V 102 [some (jR 20 0), some (jI (nI i)), some (jI (nI k)), o3, o4] [] (jx_st h 27 0 g)) 15
        (by
          intro _ o3 o4 hm
          refine rule (Nat.beq 92) 20 102 _ _ _ ?_
          refine pk_le 15 15 (fun _ => ?_) (fun q => absurd q (Nat.lt_irrefl _))
          refine jv_to (V := V) (ih (some (jI (nI 15))) o3 o4 (fun a ha => ?_)) (by rw [nI_add]) rfl rfl
          by_cases hai : a = i
          · subst hai
            exact fst_none (fun b h1 h2 => hm b h1 (by omega))
          · exact hn a (by omega))
        (fun k hk ih2 => by
          intro hik o3 o4 hm
          refine rule (Nat.beq 102) 100 102 _ _ _ ?_
          have hw' : AR (jx_st h 27 0 g 23 0) 15 16 gf_pw := hw
          have hg' : ∀ j, j < 4 → jx_st h 27 0 g 27 0 (j + 1) = nI (sy s j) ∧ sy s j < 16 := hg
          have g1 := hg' 0 (by decide)
          have g2 := hg' 1 (by decide)
          refine pk_le 15 k (fun q => absurd q (by omega)) (fun _ => ?_)
          refine Exists.intro 2 (And.intro (And.intro (by decide) rfl) ?_)
          refine Exists.intro 1 (And.intro (And.intro (by decide) rfl) ?_)
          refine jx_cal (S_M_of hw' (e := i) (by omega)) rfl (fun q h2 hq => ?_)
          obtain ⟨rfl, rfl⟩ := hq
          refine jx_cal (S_M_product g1.2 (gf_pw_lt i)) (by rw [show jx_st h 27 0 g 27 0 1 = nI (sy s 0) from g1.1]) (fun q h2 hq => ?_)
          obtain ⟨rfl, rfl⟩ := hq
          refine jx_cal (S_M_of hw' (e := k) (by omega)) rfl (fun q h2 hq => ?_)
          obtain ⟨rfl, rfl⟩ := hq
          refine jx_cal (S_M_of hw' (e := k) (by omega)) rfl (fun q h2 hq => ?_)
          obtain ⟨rfl, rfl⟩ := hq
          refine jx_cal (S_M_of hw' (e := i) (by omega)) rfl (fun q h2 hq => ?_)
          obtain ⟨rfl, rfl⟩ := hq
          refine jx_cal (S_M_product (gf_pw_lt k) (gf_xor_lt (gf_pw_lt k) (gf_pw_lt i))) (by rw [jn_xor]) (fun q h2 hq => ?_)
          obtain ⟨rfl, rfl⟩ := hq
          have w16 : sy s 1 ^^^ gf_ml (sy s 0) (gf_pw i) < 16 := gf_xor_lt g2.2 (gf_ml_lt _ _)
          refine jx_cal (S_M_quotient w16 (gf_ml_lt _ _) (gf_dv i hi k hk (by omega))) (by rw [show jx_st h 27 0 g 27 0 2 = nI (sy s 1) from g2.1, jn_xor]) (fun q h2 hq => ?_)
          obtain ⟨rfl, rfl⟩ := hq
          have v16 : vv (sy s) i k < 16 := gf_qt_lt _ _
          have ef : gf_qt (sy s 1 ^^^ gf_ml (sy s 0) (gf_pw i)) (gf_ml (gf_pw k) (gf_pw k ^^^ gf_pw i)) = gf_qt (vv (sy s) i k) (gf_pw k) := by
            rw [gf_qt_2 _ w16 i hi k hk, vv, gf_s2, gf_ml_cm (gf_pw i)]
          rw [ef]
          refine Exists.intro 1 (And.intro (And.intro (by decide) rfl) ?_)
          refine jx_cal (S_M_of hw' (e := k) (by omega)) rfl (fun q h2 hq => ?_)
          obtain ⟨rfl, rfl⟩ := hq
          refine jx_cal (S_M_product (gf_qt_lt (vv (sy s) i k) (gf_pw k)) (gf_pw_lt k)) rfl (fun q h2 hq => ?_)
          obtain ⟨rfl, rfl⟩ := hq
          refine jx_cal (S_M_of hw' (e := i) (by omega)) rfl (fun q h2 hq => ?_)
          obtain ⟨rfl, rfl⟩ := hq
          have u16 : sy s 0 ^^^ vv (sy s) i k < 16 := gf_xor_lt g1.2 v16
          refine jx_cal (S_M_quotient u16 (gf_pw_lt i) (gf_pw_0 i)) (by rw [show jx_st h 27 0 g 27 0 1 = nI (sy s 0) from g1.1, gf_qt_ml _ v16 _ (gf_pw_lt k) (gf_pw_0 k), jn_xor]) (fun q h2 hq => ?_)
          obtain ⟨rfl, rfl⟩ := hq
          refine jx_cal (S_M_fits hw' hg' hi (gf_qt_lt _ _) hk (gf_qt_lt _ _)) rfl (fun q h2 hq => ?_)
          obtain ⟨rfl, rfl⟩ := hq
          have eq2 : fta (sy s) i (gf_qt (sy s 0 ^^^ vv (sy s) i k) (gf_pw i)) k (gf_qt (vv (sy s) i k) (gf_pw k)) 4 = q2 (sy s) i k := fta_aso hi hk u16 v16 (xor_3 _ _)
          rw [eq2]
          refine pk_eq (q2 (sy s) i k).toNat 0 (fun q => ?_) (fun q => ?_) rfl rfl (by have := toNat_le (q2 (sy s) i k); omega) (by decide)
          · refine jv_to (V := V) (ih2 (by omega) _ _ (fun a h1 h2 => ?_)) (by rw [nI_add]) rfl rfl
            by_cases hak : a = k
            · subst hak; exact tn0 q
            · exact hm a h1 (by omega)
          · have e0 := tn1 q
            refine Exists.intro i (And.intro (And.intro hi rfl) ?_)
            refine Exists.intro i (And.intro (And.intro hi rfl) ?_)
            refine Exists.intro k (And.intro (And.intro hk rfl) ?_)
            refine Exists.intro k (And.intro (And.intro hk rfl) ?_)
            have ef : fst (q2 (sy s) i) (i + 1) (14 - i) = some k := fst_some hik (by omega) (fun a h1 h2 => hm a h1 h2) e0
            have e2 : c2 (sy s) = some (i, k) := fs2_some (Nat.zero_le _) (by omega) (fun a _ ha => hn a ha) ef
            have e : cor s = (nI 2, m2 (sy s) s i k) := by rw [cor, if_neg c0, e1, e2]
            rw [e]
            refine And.intro rfl (Exists.intro (upd (upd (h 26 0) i (nI (s i ^^^ gf_qt (sy s 0 ^^^ vv (sy s) i k) (gf_pw i)))) k (nI (s k ^^^ gf_qt (vv (sy s) i k) (gf_pw k)))) (Exists.intro g (And.intro ?_ ?_)))
            · rw [jx_st_same, jx_st_st, show jx_st h 27 0 g 26 0 = h 26 0 from rfl, upd_ne _ _ (show k ≠ i by omega), hs.at hi, hs.at hk, jn_xor, jn_xor]
            · have := (hs.put (k := i) (gf_xor_lt (hs.lt hi) (gf_qt_lt (sy s 0 ^^^ vv (sy s) i k) (gf_pw i)))).put (k := k) (gf_xor_lt (hs.lt hk) (gf_qt_lt (vv (sy s) i k) (gf_pw k)))
              exact this)
      refine rule (Nat.beq 102) 20 92 _ _ _ ?_
      refine pk_le 15 i (fun q => absurd q (by omega)) (fun _ => ?_)
      exact jv_to (V := V) (inner (i + 1) (by omega) (Nat.le_refl _) o3 o4 (fun a h1 h2 => by omega)) (by rw [nI_add]) rfl rfl)
  have one := fun (g : Nat → Int32) (hg : ∀ j, j < 4 → g (j + 1) = nI (sy s j) ∧ sy s j < 16) => jl_up (P := fun i => ∀ o2 : Option jxV, (∀ k, k < i → aso (sy s) k (sy s 0) k 0 = false) → V 35 [some (jR 20 0), some (jI (nI i)), o2, none, none] [] (jx_st h 27 0 g)) 15
    (by
      intro o2 hn
      refine rule (Nat.beq 92) 20 35 _ _ _ ?_
      refine pk_le 15 15 (fun _ => ?_) (fun q => absurd q (Nat.lt_irrefl _))
      have e1 : c1 (sy s) = none := fst_none (fun k _ h2 => hn k (by omega))
      exact two g hg e1 0 (Nat.zero_le _) o2 none none (fun a ha => absurd ha (Nat.not_lt_zero _)))
    (fun i hi ih => by
      intro o2 hn
      refine rule (Nat.beq 35) 60 35 _ _ _ ?_
      have hw' : AR (jx_st h 27 0 g 23 0) 15 16 gf_pw := hw
      have hg' : ∀ j, j < 4 → jx_st h 27 0 g 27 0 (j + 1) = nI (sy s j) ∧ sy s j < 16 := hg
      have g1 := hg' 0 (by decide)
      refine pk_le 15 i (fun q => absurd q (by omega)) (fun _ => ?_)
      refine Exists.intro 1 (And.intro (And.intro (by decide) rfl) ?_)
      refine jx_cal (S_M_of hw' (e := i) (by omega)) rfl (fun q h2 hq => ?_)
      obtain ⟨rfl, rfl⟩ := hq
      refine jx_cal (S_M_quotient g1.2 (gf_pw_lt i) (gf_pw_0 i)) (by rw [show jx_st h 27 0 g 27 0 1 = nI (sy s 0) from g1.1]) (fun q h2 hq => ?_)
      obtain ⟨rfl, rfl⟩ := hq
      refine jx_cal (S_M_fits (f := 0) hw' hg' hi (gf_qt_lt _ _) hi (by decide)) rfl (fun q h2 hq => ?_)
      obtain ⟨rfl, rfl⟩ := hq
      have eq2 : fta (sy s) i (gf_qt (sy s 0) (gf_pw i)) i 0 4 = aso (sy s) i (sy s 0) i 0 := by
        have := fta_aso (S := sy s) (v := 0) hi hi g1.2 (by decide) (Nat.xor_zero _).symm
        rwa [gf_qt_0] at this
      rw [eq2]
      refine pk_eq (aso (sy s) i (sy s 0) i 0).toNat 0 (fun q => ?_) (fun q => ?_) rfl rfl (by have := toNat_le (aso (sy s) i (sy s 0) i 0); omega) (by decide)
      · refine jv_to (V := V) (ih _ (fun k hk => ?_)) (by rw [nI_add]) rfl rfl
        by_cases hki : k = i
        · subst hki; exact tn0 q
        · exact hn k (by omega)
      · have e0 := tn1 q
        refine Exists.intro i (And.intro (And.intro hi rfl) ?_)
        refine Exists.intro i (And.intro (And.intro hi rfl) ?_)
        have e1 : c1 (sy s) = some i := fst_some (Nat.zero_le _) (by omega) (fun k _ hk => hn k hk) e0
        have e : cor s = (nI 1, nup s i (s i ^^^ gf_qt (sy s 0) (gf_pw i))) := by rw [cor, if_neg c0, e1]
        rw [e]
        refine And.intro rfl (Exists.intro (upd (h 26 0) i (nI (s i ^^^ gf_qt (sy s 0) (gf_pw i)))) (Exists.intro g (And.intro ?_ (hs.put (gf_xor_lt (hs.lt hi) (gf_qt_lt _ _))))))
        rw [show jx_st h 27 0 g 26 0 = h 26 0 from rfl, hs.at hi, jn_xor])
  have sums := jl_up (P := fun j => ∀ g : Nat → Int32, (∀ k, k < j → g (k + 1) = nI (sy s k) ∧ sy s k < 16) → V 11 [some (jR 20 0), some (jI (nI (j + 1))), none, none, none] [] (jx_st h 27 0 g)) 4
    (by
      intro g hg
      refine rule (Nat.beq 35) 20 11 _ _ _ ?_
      refine pk_le 5 5 (fun _ => ?_) (fun q => absurd q (Nat.lt_irrefl _))
      exact one g hg 0 (Nat.zero_le _) none (fun k hk => absurd hk (Nat.not_lt_zero _)))
    (fun j hj ih => by
      intro g hg
      refine rule (Nat.beq 11) 20 11 _ _ _ ?_
      refine pk_le 5 (j + 1) (fun q => absurd q (by omega)) (fun _ => ?_)
      have hw' : AR (jx_st h 27 0 g 23 0) 15 16 gf_pw := hw
      have hs' : AR (jx_st h 27 0 g 26 0) 15 16 s := hs
      refine jx_cal (S_M_sumAt (j := j) hw' hs' hj) rfl (fun q h2 hq => ?_)
      obtain ⟨rfl, rfl⟩ := hq
      refine Exists.intro (j + 1) (And.intro (And.intro (by omega) rfl) ?_)
      refine jv_to (V := V) (ih (upd g (j + 1) (nI (sy s j))) (fun k hk => ?_)) (by rw [nI_add]) rfl (by rw [jx_st_same, jx_st_st])
      by_cases hkj : k = j
      · subst hkj; rw [upd_same]; exact ⟨rfl, sy_lt s k⟩
      · rw [upd_ne _ _ (by omega)]; exact hg k (by omega))
  refine rule (Nat.beq 11) 20 0 _ _ _ ?_
  refine jx_cal (S_M_isWord hw hs) rfl (fun q h2 hq => ?_)
  obtain ⟨rfl, rfl⟩ := hq
  refine pk_eq 0 0 (fun _ => ?_) (fun q => absurd rfl q) (by simp [c0]) rfl
  exact jv_to (V := V) (sums 0 (Nat.zero_le _) (h2 27 0) (fun k hk => absurd hk (Nat.not_lt_zero _))) rfl rfl (jx_st_id h2 27 0).symm
end
section
/-! The reference: dots of the pages. -/
def PA (f : Nat → Int32) (p : Nat) (D : Nat → Nat → Bool) : Prop := ∀ x y, x < 18 → y < 18 → f (324 * p + 18 * y + x) = nI (D x y).toNat
/-- page p of f holds D; all else is f0's -/
def PF (f0 f : Nat → Int32) (p : Nat) (D : Nat → Nat → Bool) : Prop := PA f p D ∧ ∀ k, (k < 324 * p ∨ 324 * p + 324 ≤ k) → f k = f0 k
theorem PA.congr {f : Nat → Int32} {p : Nat} {D D' : Nat → Nat → Bool} (h : PA f p D) (he : ∀ x y, x < 18 → y < 18 → D x y = D' x y) : PA f p D' := fun x y hx hy => by
  rw [← he x y hx hy]; exact h x y hx hy
theorem PF.congr {f0 f : Nat → Int32} {p : Nat} {D D' : Nat → Nat → Bool} (h : PF f0 f p D) (he : ∀ x y, x < 18 → y < 18 → D x y = D' x y) : PF f0 f p D' := ⟨h.1.congr he, h.2⟩
theorem PF.put {f0 f : Nat → Int32} {p x y : Nat} {D : Nat → Nat → Bool} (h : PF f0 f p D) (hx : x < 18) (hy : y < 18) (v : Bool) : PF f0 (upd f (324 * p + 18 * y + x) (nI v.toNat)) p (fun a b => if a = x ∧ b = y then v else D a b) := by
  refine ⟨fun a b ha hb => ?_, fun k hk => ?_⟩
  · show _ = nI (if a = x ∧ b = y then v else D a b).toNat
    by_cases hab : a = x ∧ b = y
    · rw [if_pos hab, hab.1, hab.2, upd_same]
    · rw [upd_ne _ _ (by omega), if_neg hab]
      exact h.1 a b ha hb
  · rw [upd_ne _ _ (by omega)]
    exact h.2 k hk
theorem b01 (b : Bool) : nI b.toNat = nI 0 ∨ nI b.toNat = nI 1 := by cases b; exact Or.inl rfl; exact Or.inr rfl
theorem jn_at (p x y : Nat) : nI 324 * nI p + nI 18 * nI y + nI x = nI (324 * p + 18 * y + x) := by rw [pk_mul, pk_mul, nI_add, nI_add]
theorem S_M_dot {pg x y : Int32} {P : Nat} {DD : Nat → Nat → Nat → Bool} {h : jxH} (hP : h 20 0 3 = nI P) (hP6 : P ≤ 6) (hD : ∀ p, p < 6 → PA (h 22 0) p (DD p)) : jx_MW 66 [jR 20 0, jI pg, jI x, jI y] h
    (fun r h' => (hd9 pg x y P = true → (∀ p i j, p < P → i < 18 → j < 18 → pg = nI p → x = nI i → y = nI j → r = nI (DD p i j).toNat) ∧ h' = thr h 0) ∧ (hd9 pg x y P = false → h' = thr h 1)) := by
  refine jx_MW_by [some (jR 20 0), some (jI pg), some (jI x), some (jI y)] (by decide) rfl (Nat.le_of_ble_eq_true rfl) (fun V rule => ?_)
  refine rule (fun _ => false) 60 0 _ _ _ ?_
  refine jx_cal (S_M_noDot hP) rfl (fun z h2 hq => ?_)
  obtain ⟨rfl, rfl⟩ := hq
  cases e : hd9 pg x y P with
  | false =>
    refine pk_eq 1 0 (fun z => absurd z (by decide)) (fun _ => ?_)
    refine pk_eq 1 0 (fun z => absurd z (by decide)) (fun _ => ?_)
    exact And.intro (Or.inl rfl) (And.intro (fun z => absurd z (by decide)) (fun _ => rfl))
  | true =>
    refine pk_eq 0 0 (fun _ => ?_) (fun z => absurd rfl z)
    refine pk_eq 0 0 (fun _ => ?_) (fun z => absurd rfl z)
    simp only [hd9, Bool.and_eq_true] at e
    obtain ⟨p, hp, rfl⟩ := hp9_t (by omega) e.1
    obtain ⟨i, hi, rfl⟩ := hp9_t (by decide) e.2.1
    obtain ⟨j, hj, rfl⟩ := hp9_t (by decide) e.2.2
    refine Exists.intro (324 * p + 18 * j + i) (And.intro (And.intro (by omega) (jn_at p i j)) ?_)
    have ev : thr h2 0 22 0 (324 * p + 18 * j + i) = nI (DD p i j).toNat := hD p (by omega) i j hi hj
    have fin : ∀ c : Bool, DD p i j = c → ∀ p' i' j', p' < P → i' < 18 → j' < 18 → nI p = nI p' → nI i = nI i' → nI j = nI j' → nI c.toNat = nI (DD p' i' j').toNat := fun c hc p' i' j' h1 h2 h3 e1 e2 e3 => by
      rw [← jn_inj (by omega) (by omega) e1, ← jn_inj (by omega) (by omega) e2, ← jn_inj (by omega) (by omega) e3, hc]
    refine pk_eq (DD p i j).toNat 0 (fun q => ?_) (fun q => ?_) ev rfl (by have := toNat_le (DD p i j); omega) (by decide)
    · exact And.intro (Or.inl rfl) (And.intro (fun _ => And.intro (fin false (tn0 q)) rfl) (fun z => absurd z (by decide)))
    · exact And.intro (Or.inr rfl) (And.intro (fun _ => And.intro (fin true (tn1 q)) rfl) (fun z => absurd z (by decide)))
theorem S_M_flip {pg x y : Int32} {P : Nat} {DD : Nat → Nat → Nat → Bool} {h : jxH} (hP : h 20 0 3 = nI P) (hP6 : P ≤ 6) (hD : ∀ p, p < 6 → PA (h 22 0) p (DD p)) : jx_MW 68 [jR 20 0, jI pg, jI x, jI y] h
    (fun _ h' => (hd9 pg x y P = true → ∀ p i j, p < P → i < 18 → j < 18 → pg = nI p → x = nI i → y = nI j → ∃ f, h' = jx_st (thr h 0) 22 0 f ∧ PF (h 22 0) f p (fun a b => if a = i ∧ b = j then !DD p a b else DD p a b)) ∧ (hd9 pg x y P = false → h' = thr h 1)) := by
  refine jx_MW_by [some (jR 20 0), some (jI pg), some (jI x), some (jI y)] (by decide) rfl (Nat.le_of_ble_eq_true rfl) (fun V rule => ?_)
  refine rule (fun _ => false) 60 0 _ _ _ ?_
  refine jx_cal (S_M_noDot hP) rfl (fun z h2 hq => ?_)
  obtain ⟨rfl, rfl⟩ := hq
  cases e : hd9 pg x y P with
  | false =>
    refine pk_eq 1 0 (fun z => absurd z (by decide)) (fun _ => ?_)
    refine pk_eq 1 0 (fun z => absurd z (by decide)) (fun _ => ?_)
    exact And.intro (fun z => absurd z (by decide)) (fun _ => rfl)
  | true =>
    refine pk_eq 0 0 (fun _ => ?_) (fun z => absurd rfl z)
    refine pk_eq 0 0 (fun _ => ?_) (fun z => absurd rfl z)
    simp only [hd9, Bool.and_eq_true] at e
    obtain ⟨p, hp, rfl⟩ := hp9_t (by omega) e.1
    obtain ⟨i, hi, rfl⟩ := hp9_t (by decide) e.2.1
    obtain ⟨j, hj, rfl⟩ := hp9_t (by decide) e.2.2
    refine Exists.intro (324 * p + 18 * j + i) (And.intro (And.intro (by omega) (jn_at p i j)) ?_)
    have ev : thr h2 0 22 0 (324 * p + 18 * j + i) = nI (DD p i j).toNat := hD p (by omega) i j hi hj
    have fin : ∀ c : Bool, (!DD p i j) = c → ∀ p' i' j', p' < P → i' < 18 → j' < 18 → nI p = nI p' → nI i = nI i' → nI j = nI j' → ∃ f, jx_st (thr h2 0) 22 0 (upd (thr h2 0 22 0) (324 * p + 18 * j + i) (nI c.toNat)) = jx_st (thr h2 0) 22 0 f ∧ PF (h2 22 0) f p' (fun a b => if a = i' ∧ b = j' then !DD p' a b else DD p' a b) := fun c hc p' i' j' h1 h3 h4 e1 e2 e3 => by
      cases jn_inj (by omega) (by omega) e1
      cases jn_inj (by omega) (by omega) e2
      cases jn_inj (by omega) (by omega) e3
      refine ⟨_, rfl, ?_⟩
      have g0 : PF (h2 22 0) (h2 22 0) p (DD p) := ⟨hD p (by omega), fun _ _ => rfl⟩
      refine (g0.put hi hj c).congr (fun a b ha hb => ?_)
      by_cases hab : a = i ∧ b = j
      · rw [if_pos hab, if_pos hab, hab.1, hab.2, hc]
      · rw [if_neg hab, if_neg hab]
    refine pk_eq (DD p i j).toNat 0 (fun q => ?_) (fun q => ?_) ev rfl (by have := toNat_le (DD p i j); omega) (by decide)
    · refine Exists.intro (324 * p + 18 * j + i) (And.intro (And.intro (by omega) (And.intro (jn_at p i j) (Or.inr rfl))) ?_)
      exact And.intro (fun _ => fin true (by rw [tn0 q]; rfl)) (fun z => absurd z (by decide))
    · refine Exists.intro (324 * p + 18 * j + i) (And.intro (And.intro (by omega) (And.intro (jn_at p i j) (Or.inl rfl))) ?_)
      exact And.intro (fun _ => fin false (by rw [tn1 q]; rfl)) (fun z => absurd z (by decide))
theorem S_M_blot {pg x y wi hi : Int32} {c : Bool} {P : Nat} {DD : Nat → Nat → Nat → Bool} {h : jxH} (hP : h 20 0 3 = nI P) (hP6 : P ≤ 6) (hD : ∀ p, p < 6 → PA (h 22 0) p (DD p)) : jx_MW 64 [jR 20 0, jI pg, jI x, jI y, jI wi, jI hi, jI (nI c.toNat)] h
    (fun q h' => ((hd9 pg x y P && (sz9 wi && sz9 hi)) = true → ∀ p i j w g, p < P → i < 18 → j < 18 → 1 ≤ w → w ≤ 18 → 1 ≤ g → g ≤ 18 → pg = nI p → x = nI i → y = nI j → wi = nI w → hi = nI g → q = nI (sm (fun y => sm (df (DD p) c y) i (min (i + w) 18 - i)) j (min (j + g) 18 - j)) ∧ ∃ f, h' = jx_st (thr h 0) 22 0 f ∧ PF (h 22 0) f p (pD (DD p) i j (min (i + w) 18) (min (j + g) 18) c)) ∧ ((hd9 pg x y P && (sz9 wi && sz9 hi)) = false → h' = thr h 1)) := by
  refine jx_MW_by [some (jR 20 0), some (jI pg), some (jI x), some (jI y), some (jI wi), some (jI hi), some (jI (nI c.toNat)), none, none, none] (by decide) rfl (Nat.le_of_ble_eq_true rfl) (fun V rule => ?_)
  have bad : (hd9 pg x y P && (sz9 wi && sz9 hi)) = false → jx_blk 64 (Nat.beq 51) V (fun q h' => ((hd9 pg x y P && (sz9 wi && sz9 hi)) = true → ∀ p i j w g, p < P → i < 18 → j < 18 → 1 ≤ w → w ≤ 18 → 1 ≤ g → g ≤ 18 → pg = nI p → x = nI i → y = nI j → wi = nI w → hi = nI g → q = nI (sm (fun y => sm (df (DD p) c y) i (min (i + w) 18 - i)) j (min (j + g) 18 - j)) ∧ ∃ f, h' = jx_st (thr h 0) 22 0 f ∧ PF (h 22 0) f p (pD (DD p) i j (min (i + w) 18) (min (j + g) 18) c)) ∧ ((hd9 pg x y P && (sz9 wi && sz9 hi)) = false → h' = thr h 1)) (fun _ _ => False) 30 37 [some (jR 20 0), some (jI pg), some (jI x), some (jI y), some (jI wi), some (jI hi), some (jI (nI c.toNat)), none, none, none] [jR 20 0] h := by
    intro e
    refine rule (fun _ => false) 20 51 _ _ _ ?_
    refine pk_eq 1 0 (fun z => absurd z (by decide)) (fun _ => ?_)
    exact And.intro (fun z => absurd (e.symm.trans z) (by decide)) (fun _ => rfl)
  refine rule (Nat.beq 51) 80 0 _ _ _ ?_
  refine jx_cal (S_M_noDot hP) rfl (fun z h2 hq => ?_)
  obtain ⟨rfl, rfl⟩ := hq
  cases e0 : hd9 pg x y P with
  | false =>
    refine pk_eq 1 0 (fun z => absurd z (by decide)) (fun _ => ?_)
    rw [e0] at bad
    exact bad rfl
  | true =>
    rw [e0] at bad
    refine pk_eq 0 0 (fun _ => ?_) (fun z => absurd rfl z)
    refine br_c (fun q1 => ?_) (fun q1 => ?_)
    · exact bad (by simp [sz9, show wi < nI 1 from q1])
    refine br_c (fun q2 => ?_) (fun q2 => ?_)
    · exact bad (by simp [sz9, show nI 18 < wi from q2])
    refine br_c (fun q3 => ?_) (fun q3 => ?_)
    · exact bad (by simp [sz9, show hi < nI 1 from q3])
    refine br_c (fun q4 => ?_) (fun q4 => ?_)
    · have e1 : sz9 wi = true := by simp [sz9, show ¬ wi < nI 1 from q1, show ¬ nI 18 < wi from q2]
      have q5 : ¬ nI 18 < hi := Int32.not_lt.mpr q4
      have e2 : sz9 hi = true := by simp [sz9, show ¬ hi < nI 1 from q3, q5]
      simp only [hd9, Bool.and_eq_true] at e0
      obtain ⟨p, hp, rfl⟩ := hp9_t (by omega) e0.1
      obtain ⟨l, hl, rfl⟩ := hp9_t (by decide) e0.2.1
      obtain ⟨t, ht, rfl⟩ := hp9_t (by decide) e0.2.2
      obtain ⟨w, w1, w2, rfl⟩ := sz9_t e1
      obtain ⟨g, g1, g2, rfl⟩ := sz9_t e2
      obtain ⟨r, hr⟩ : ∃ r, r = min (l + w) 18 := ⟨_, rfl⟩
      obtain ⟨b, hb⟩ : ∃ b, b = min (t + g) 18 := ⟨_, rfl⟩
      have d1 : ∀ y x, df (DD p) c y x ≤ 1 := fun y x => by unfold df; split <;> omega
      have hc1 := toNat_le c
      have fin : ∀ f, PF (h2 22 0) f p (pD (DD p) l t r b c) → ((hd9 (nI p) (nI l) (nI t) P && (sz9 (nI w) && sz9 (nI g))) = true → ∀ p' i j w' g', p' < P → i < 18 → j < 18 → 1 ≤ w' → w' ≤ 18 → 1 ≤ g' → g' ≤ 18 → nI p = nI p' → nI l = nI i → nI t = nI j → nI w = nI w' → nI g = nI g' → nI (sm (fun y => sm (df (DD p) c y) l (r - l)) t (b - t)) = nI (sm (fun y => sm (df (DD p') c y) i (min (i + w') 18 - i)) j (min (j + g') 18 - j)) ∧ ∃ f', jx_st (thr h2 0) 22 0 f = jx_st (thr h2 0) 22 0 f' ∧ PF (h2 22 0) f' p' (pD (DD p') i j (min (i + w') 18) (min (j + g') 18) c)) ∧ ((hd9 (nI p) (nI l) (nI t) P && (sz9 (nI w) && sz9 (nI g))) = false → jx_st (thr h2 0) 22 0 f = thr h2 1) := by
        intro f hf
        refine And.intro (fun _ p' i j w' g' a1 a2 a3 a4 a5 a6 a7 z1 z2 z3 z4 z5 => ?_) (fun z => ?_)
        · cases jn_inj (by omega) (by omega) z1
          cases jn_inj (by omega) (by omega) z2
          cases jn_inj (by omega) (by omega) z3
          cases jn_inj (by omega) (by omega) z4
          cases jn_inj (by omega) (by omega) z5
          rw [← hr, ← hb]
          exact ⟨rfl, f, rfl, hf⟩
        · rw [e1, e2] at z
          have : hd9 (nI p) (nI l) (nI t) P = true := by rw [hd9, e0.1, e0.2.1, e0.2.2]; rfl
          rw [this] at z
          cases z
      have outer := jl_up (P := fun j => t ≤ j → ∀ (o : Option jxV) (f : Nat → Int32), PF (h2 22 0) f p (pD (DD p) l t r j c) → V 51 [some (jR 20 0), some (jI (nI p)), some (jI (nI l)), some (jI (nI t)), some (jI (nI w)), some (jI (nI g)), some (jI (nI c.toNat)), some (jI (nI (sm (fun y => sm (df (DD p) c y) l (r - l)) t (j - t)))), some (jI (nI j)), o] [] (jx_st (thr h2 0) 22 0 f)) b
        (by
          intro _ o f hf
          refine rule (fun _ => false) 20 51 _ _ _ ?_
          refine pk_eq 0 0 (fun _ => ?_) (fun z => absurd rfl z)
          refine pk_le (t + g) b (fun _ => ?_) (fun q => ?_) (nI_add _ _) rfl
          · exact fin f hf
          · refine pk_le 18 b (fun _ => ?_) (fun q => absurd q (by omega))
            exact fin f hf)
        (fun j hj ih => by
          intro htj o f hf
          have inner := jl_up (P := fun i => l ≤ i → ∀ (f : Nat → Int32), PF (h2 22 0) f p (fun x y => if y = j ∧ l ≤ x ∧ x < i then c else pD (DD p) l t r j c x y) → V 77 [some (jR 20 0), some (jI (nI p)), some (jI (nI l)), some (jI (nI t)), some (jI (nI w)), some (jI (nI g)), some (jI (nI c.toNat)), some (jI (nI (sm (fun y => sm (df (DD p) c y) l (r - l)) t (j - t) + sm (df (DD p) c j) l (i - l)))), some (jI (nI j)), some (jI (nI i))] [] (jx_st (thr h2 0) 22 0 f)) r
            (by
              intro _ f hf
              have leaf := jv_to (V := V) (ls := [some (jR 20 0), some (jI (nI p)), some (jI (nI l)), some (jI (nI t)), some (jI (nI w)), some (jI (nI g)), some (jI (nI c.toNat)), some (jI (nI (sm (fun y => sm (df (DD p) c y) l (r - l)) t (j - t) + sm (df (DD p) c j) l (r - l)))), some (jI (nI j + nI 1)), some (jI (nI r))]) (ih (by omega) (some (jI (nI r))) f (hf.congr (fun x y hx hy => by
                unfold pD
                by_cases hyj : y = j
                · subst hyj
                  by_cases h1 : l ≤ x ∧ x < r
                  · simp [h1, htj]
                  · simp [h1]
                    intro a1 a2
                    exact absurd ⟨a1, a2⟩ h1
                · have e1 : (y < j + 1) = (y < j) := propext ⟨fun q => by omega, fun q => by omega⟩
                  simp [hyj, e1]))) (by
                rw [nI_add, show j + 1 - t = (j - t) + 1 by omega]
                show _ = [some (jR 20 0), some (jI (nI p)), some (jI (nI l)), some (jI (nI t)), some (jI (nI w)), some (jI (nI g)), some (jI (nI c.toNat)), some (jI (nI (sm (fun y => sm (df (DD p) c y) l (r - l)) t (j - t) + sm (df (DD p) c (t + (j - t))) l (r - l)))), some (jI (nI (j + 1))), some (jI (nI r))]
                rw [show t + (j - t) = j by omega]) rfl rfl
              refine rule (Nat.beq 51) 20 77 _ _ _ ?_
              refine pk_le (l + w) r (fun _ => ?_) (fun q => ?_) (nI_add _ _) rfl
              · exact leaf
              · refine pk_le 18 r (fun _ => ?_) (fun q => absurd q (by omega))
                exact leaf)
            (fun i hi ih2 => by
              intro hli f hf
              refine rule (Nat.beq 77) 60 77 _ _ _ ?_
              refine pk_le (l + w) i (fun q => absurd q (by omega)) (fun _ => ?_) (nI_add _ _) rfl
              refine pk_le 18 i (fun q => absurd q (by omega)) (fun _ => ?_)
              refine Exists.intro (324 * p + 18 * j + i) (And.intro (And.intro (by omega) (jn_at p i j)) ?_)
              have e0 : jx_st (thr h2 0) 22 0 f 22 0 (324 * p + 18 * j + i) = nI (DD p i j).toNat := by
                rw [jx_st_same, hf.1 i j (by omega) (by omega)]
                simp [pD]
              have ei : i + 1 - l = (i - l) + 1 := by omega
              have el : l + (i - l) = i := by omega
              have nxt := ih2 (by omega) (upd f (324 * p + 18 * j + i) (nI c.toNat)) ((hf.put (x := i) (y := j) (by omega) (by omega) c).congr (fun x y hx hy => by
                by_cases hyj : y = j
                · subst hyj
                  by_cases hxi : x = i
                  · subst hxi
                    simp [hli]
                  · have e1 : (x < i + 1) = (x < i) := propext ⟨fun q => by omega, fun q => by omega⟩
                    simp [e1, hxi]
                · simp [hyj]))
              have eN : nI (sm (fun y => sm (df (DD p) c y) l (r - l)) t (j - t) + sm (df (DD p) c j) l (i + 1 - l)) = nI (sm (fun y => sm (df (DD p) c y) l (r - l)) t (j - t) + sm (df (DD p) c j) l (i - l)) + nI (df (DD p) c j i) := by
                rw [nI_add, ei]
                show nI (_ + (sm (df (DD p) c j) l (i - l) + df (DD p) c j (l + (i - l)))) = _
                rw [el, Nat.add_assoc]
              have eH : jx_st (jx_st (thr h2 0) 22 0 f) 22 0 (upd (jx_st (thr h2 0) 22 0 f 22 0) (324 * p + 18 * j + i) (nI c.toNat)) = jx_st (thr h2 0) 22 0 (upd f (324 * p + 18 * j + i) (nI c.toNat)) := by
                rw [jx_st_same, jx_st_st]
              refine pk_eq (DD p i j).toNat c.toNat (fun q => ?_) (fun q => ?_) e0 rfl (by have := toNat_le (DD p i j); omega) (by omega)
              · have q1 := toNat_inj.mp q
                refine Exists.intro (324 * p + 18 * j + i) (And.intro (And.intro (by omega) (And.intro (jn_at p i j) (b01 c))) ?_)
                refine jv_to (V := V) nxt ?_ rfl eH
                rw [eN, nI_add i 1, show df (DD p) c j i = 0 by simp [df, q1]]
              · have q1 : ¬ DD p i j = c := fun z => q (toNat_inj.mpr z)
                refine Exists.intro (324 * p + 18 * j + i) (And.intro (And.intro (by omega) (And.intro (jn_at p i j) (b01 c))) ?_)
                refine jv_to (V := V) nxt ?_ rfl eH
                rw [eN, nI_add i 1, show df (DD p) c j i = 1 by simp [df, q1]])
          refine rule (Nat.beq 77) 20 51 _ _ _ ?_
          refine pk_eq 0 0 (fun _ => ?_) (fun z => absurd rfl z)
          refine pk_le (t + g) j (fun q => absurd q (by omega)) (fun _ => ?_) (nI_add _ _) rfl
          refine pk_le 18 j (fun q => absurd q (by omega)) (fun _ => ?_)
          refine jv_to (V := V) (inner l (by omega) (Nat.le_refl _) f (hf.congr (fun x y hx hy => ?_))) ?_ rfl rfl
          · rw [if_neg (fun q => by omega)]
          · rw [Nat.sub_self]
            rfl)
      have g0 : PF (h2 22 0) (h2 22 0) p (DD p) := ⟨hD p (by omega), fun _ _ => rfl⟩
      refine jv_to (V := V) (outer t (by omega) (Nat.le_refl _) none (h2 22 0) (g0.congr (fun x y hx hy => ?_))) ?_ rfl (jx_st_id (thr h2 0) 22 0).symm
      · unfold pD
        rw [if_neg (fun q => by omega)]
      · rw [Nat.sub_self]
        rfl
    · have q5 : nI 18 < hi := Int32.not_le.mp q4
      exact bad (by simp [sz9, q5])
end
section
/-! The reference: turning, the frame, reading. -/
def SN (f : Nat → Int32) (D : Nat → Nat → Bool) : Prop := BA f 324 (fun k => D (k % 18) (k / 18))
theorem SN.congr {f : Nat → Int32} {D D' : Nat → Nat → Bool} (h : SN f D) (he : ∀ x y, x < 18 → y < 18 → D x y = D' x y) : SN f D' := fun k hk => by
  show f k = nI (D' (k % 18) (k / 18)).toNat
  rw [← he _ _ (by omega) (by omega)]
  exact h k hk
theorem S_M_turn {D : Nat → Nat → Bool} {h : jxH} (hD : SN (h 24 0) D) : jx_MW 40 [jR 20 0] h (fun _ h' => ∃ g f, h' = jx_st (jx_st h 25 0 g) 24 0 f ∧ SN f (tu 1 D)) := by
  refine jx_MW_by [some (jR 20 0), none] (by decide) rfl (Nat.le_of_ble_eq_true rfl) (fun V rule => ?_)
  have loop2 := fun (g : Nat → Int32) (hg : SN g (tu 1 D)) => jl_up (P := fun i => ∀ f : Nat → Int32, (∀ k, k < i → f k = g k) → V 43 [some (jR 20 0), some (jI (nI i))] [] (jx_st (jx_st h 25 0 g) 24 0 f)) 324
    (by
      intro f hf
      refine rule (fun _ => false) 10 43 _ _ _ ?_
      refine pk_le 324 324 (fun _ => ?_) (fun q => absurd q (Nat.lt_irrefl _))
      exact Exists.intro g (Exists.intro f (And.intro rfl (fun k hk => (hf k hk).trans (hg k hk)))))
    (fun i hi ih => by
      intro f hf
      refine rule (Nat.beq 43) 20 43 _ _ _ ?_
      refine pk_le 324 i (fun q => absurd q (by omega)) (fun _ => ?_)
      refine Exists.intro i (And.intro (And.intro hi rfl) ?_)
      have ev : g i = nI (tu 1 D (i % 18) (i / 18)).toNat := hg i hi
      refine Exists.intro i (And.intro (And.intro hi (And.intro rfl ?_)) ?_)
      · show g i = nI 0 ∨ g i = nI 1
        rw [ev]
        exact b01 _
      · refine jv_to (V := V) (ih (upd f i (g i)) (fun k hk => ?_)) (by rw [nI_add]) rfl (by rw [jx_st_same, jx_st_st]; rfl)
        by_cases hki : k = i
        · subst hki; exact upd_same _ _ _
        · rw [upd_ne _ _ hki]; exact hf k (by omega))
  have loop1 := jl_up (P := fun i => ∀ g : Nat → Int32, (∀ k, k < i → g (18 * (k % 18) + 17 - k / 18) = nI (D (k % 18) (k / 18)).toNat) → V 2 [some (jR 20 0), some (jI (nI i))] [] (jx_st h 25 0 g)) 324
    (by
      intro g hg
      refine rule (Nat.beq 43) 10 2 _ _ _ ?_
      refine pk_le 324 324 (fun _ => ?_) (fun q => absurd q (Nat.lt_irrefl _))
      have hgn : SN g (tu 1 D) := fun k hk => by
        have := hg (18 * (17 - k % 18) + k / 18) (by omega)
        rw [show 18 * ((18 * (17 - k % 18) + k / 18) % 18) + 17 - (18 * (17 - k % 18) + k / 18) / 18 = k by omega, show (18 * (17 - k % 18) + k / 18) % 18 = k / 18 by omega, show (18 * (17 - k % 18) + k / 18) / 18 = 17 - k % 18 by omega] at this
        exact this
      exact jv_to (V := V) (loop2 g hgn 0 (Nat.zero_le _) (h 24 0) (fun k hk => absurd hk (Nat.not_lt_zero _))) rfl rfl (jx_st_id (jx_st h 25 0 g) 24 0).symm)
    (fun i hi ih => by
      intro g hg
      refine rule (Nat.beq 2) 30 2 _ _ _ ?_
      refine pk_le 324 i (fun q => absurd q (by omega)) (fun _ => ?_)
      refine And.intro (by decide) ?_
      refine And.intro (by decide) ?_
      have ei : nI 18 * (nI i - nI i / nI 18 * nI 18) + nI 17 - nI i / nI 18 = nI (18 * (i % 18) + 17 - i / 18) := by
        rw [jn_rem (by omega) (by decide) (by decide), pk_mul, nI_add, pk_div (by omega) (by decide) (by decide), pk_sub (by omega)]
      refine Exists.intro i (And.intro (And.intro hi rfl) ?_)
      have ev : h 24 0 i = nI (D (i % 18) (i / 18)).toNat := hD i hi
      refine Exists.intro (18 * (i % 18) + 17 - i / 18) (And.intro (And.intro (by omega) (And.intro ei ?_)) ?_)
      · show h 24 0 i = nI 0 ∨ h 24 0 i = nI 1
        rw [ev]
        exact b01 _
      · refine jv_to (V := V) (ih (upd g (18 * (i % 18) + 17 - i / 18) (h 24 0 i)) (fun k hk => ?_)) (by rw [nI_add]) rfl (by rw [jx_st_same, jx_st_st]; rfl)
        by_cases hki : k = i
        · subst hki; rw [upd_same]; exact ev
        · rw [upd_ne _ _ (by omega)]; exact hg k (by omega))
  refine rule (Nat.beq 2) 10 0 _ _ _ ?_
  exact jv_to (V := V) (loop1 0 (Nat.zero_le _) (h 25 0) (fun k hk => absurd hk (Nat.not_lt_zero _))) rfl rfl (jx_st_id h 25 0).symm
def fe1 (D : Nat → Nat → Bool) (k : Nat) : Nat := if edge (k % 18) (k / 18) = true then ff D (k % 18) (k / 18) else 0
theorem sm_row (f : Nat → Nat) (a : Nat) : ∀ n, sm f 0 (a + n) = sm f 0 a + sm (fun x => f (a + x)) 0 n
  | 0 => rfl
  | n + 1 => by
    show sm f 0 (a + n) + f (0 + (a + n)) = sm f 0 a + (sm (fun x => f (a + x)) 0 n + f (a + (0 + n)))
    rw [sm_row f a n, Nat.zero_add, Nat.zero_add, Nat.add_assoc]
theorem fe1_row (D : Nat → Nat → Bool) (y : Nat) (hy : 0 < y) (hy9 : y < 17) : sm (fun x => fe1 D (18 * y + x)) 0 18 = ff D 0 y + ff D 17 y := by
  have key : ∀ x, x < 18 → fe1 D (18 * y + x) = if x = 0 ∨ x = 17 then ff D x y else 0 := by
    intro x hx
    rw [fe1, show (18 * y + x) % 18 = x by omega, show (18 * y + x) / 18 = y by omega]
    refine if_iff ?_
    simp only [edge, Bool.or_eq_true, decide_eq_true_eq]
    omega
  rw [sm_congr (g := fun x => if x = 0 ∨ x = 17 then ff D x y else 0) (fun k _ hk => key k (by omega))]
  simp [sm]
theorem fe1_all (D : Nat → Nat → Bool) (y : Nat) (hy : y = 0 ∨ y = 17) : sm (fun x => fe1 D (18 * y + x)) 0 18 = sm (fun x => ff D x y) 0 18 := by
  refine sm_congr (fun k _ hk => ?_)
  show fe1 D (18 * y + k) = _
  rw [fe1, show (18 * y + k) % 18 = k by omega, show (18 * y + k) / 18 = y by omega, if_pos]
  simp only [edge, Bool.or_eq_true, decide_eq_true_eq]
  omega
theorem fe1_fts (D : Nat → Nat → Bool) : sm (fe1 D) 0 324 = fts D 17 := by
  rw [show 324 = 18 * 17 + 18 from rfl, sm_row, fe1_all D 17 (Or.inr rfl)]
  rw [show 18 * 17 = 18 * 16 + 18 from rfl, sm_row, fe1_row D 16 (by decide) (by decide)]
  rw [show 18 * 16 = 18 * 15 + 18 from rfl, sm_row, fe1_row D 15 (by decide) (by decide)]
  rw [show 18 * 15 = 18 * 14 + 18 from rfl, sm_row, fe1_row D 14 (by decide) (by decide)]
  rw [show 18 * 14 = 18 * 13 + 18 from rfl, sm_row, fe1_row D 13 (by decide) (by decide)]
  rw [show 18 * 13 = 18 * 12 + 18 from rfl, sm_row, fe1_row D 12 (by decide) (by decide)]
  rw [show 18 * 12 = 18 * 11 + 18 from rfl, sm_row, fe1_row D 11 (by decide) (by decide)]
  rw [show 18 * 11 = 18 * 10 + 18 from rfl, sm_row, fe1_row D 10 (by decide) (by decide)]
  rw [show 18 * 10 = 18 * 9 + 18 from rfl, sm_row, fe1_row D 9 (by decide) (by decide)]
  rw [show 18 * 9 = 18 * 8 + 18 from rfl, sm_row, fe1_row D 8 (by decide) (by decide)]
  rw [show 18 * 8 = 18 * 7 + 18 from rfl, sm_row, fe1_row D 7 (by decide) (by decide)]
  rw [show 18 * 7 = 18 * 6 + 18 from rfl, sm_row, fe1_row D 6 (by decide) (by decide)]
  rw [show 18 * 6 = 18 * 5 + 18 from rfl, sm_row, fe1_row D 5 (by decide) (by decide)]
  rw [show 18 * 5 = 18 * 4 + 18 from rfl, sm_row, fe1_row D 4 (by decide) (by decide)]
  rw [show 18 * 4 = 18 * 3 + 18 from rfl, sm_row, fe1_row D 3 (by decide) (by decide)]
  rw [show 18 * 3 = 18 * 2 + 18 from rfl, sm_row, fe1_row D 2 (by decide) (by decide)]
  rw [show 18 * 2 = 18 * 1 + 18 from rfl, sm_row, fe1_row D 1 (by decide) (by decide)]
  rw [show 18 * 1 = 18 * 0 + 18 from rfl, sm_row, fe1_all D 0 (Or.inl rfl)]
  simp only [sm, fts]
  simp
  omega
end
section
/-! The reference: frame errors, rows read, keeping. -/
theorem fe1_le (D : Nat → Nat → Bool) (k : Nat) : fe1 D k ≤ 1 := by
  unfold fe1
  split
  · exact ff_le _ _ _
  · omega
theorem S_M_frameErrors {D : Nat → Nat → Bool} {h : jxH} (hD : SN (h 24 0) D) : jx_MW 69 [jR 20 0] h (fun r h' => r = nI (fts D 17) ∧ h' = h) := by
  refine jx_MW_by [some (jR 20 0), none, none, none, none, none] (by decide) rfl (Nat.le_of_ble_eq_true rfl) (fun V rule => ?_)
  have loop := jl_up (P := fun k => ∀ o3 o4 o5 : Option jxV, V 4 [some (jR 20 0), some (jI (nI (sm (fe1 D) 0 k))), some (jI (nI k)), o3, o4, o5] [] h) 324
    (by
      intro o3 o4 o5
      refine rule (fun _ => false) 10 4 _ _ _ ?_
      refine pk_le 324 324 (fun _ => ?_) (fun q => absurd q (Nat.lt_irrefl _))
      exact And.intro (by rw [fe1_fts]) rfl)
    (fun k hk ih => by
      intro o3 o4 o5
      have nxt : ∀ v, v = fe1 D k → V 4 [some (jR 20 0), some (jI (nI (sm (fe1 D) 0 k) + nI v)), some (jI (nI k + nI 1)), some (jI (nI (k % 18))), some (jI (nI (k / 18))), some (jI (nI (edge (k % 18) (k / 18)).toNat))] [] h := by
        intro v hv
        refine jv_to (V := V) (ih (some (jI (nI (k % 18)))) (some (jI (nI (k / 18)))) (some (jI (nI (edge (k % 18) (k / 18)).toNat)))) ?_ rfl rfl
        rw [nI_add, nI_add, hv]
        show _ = [some (jR 20 0), some (jI (nI (sm (fe1 D) 0 k + fe1 D (0 + k)))), _, _, _, _]
        rw [Nat.zero_add]
      have mid : V 51 [some (jR 20 0), some (jI (nI (sm (fe1 D) 0 k))), some (jI (nI k)), some (jI (nI (k % 18))), some (jI (nI (k / 18))), some (jI (nI (edge (k % 18) (k / 18)).toNat))] [] h := by
        refine rule (Nat.beq 4) 40 51 _ _ _ ?_
        refine pk_eq (edge (k % 18) (k / 18)).toNat 0 (fun q => ?_) (fun q => ?_) rfl rfl (by have := toNat_le (edge (k % 18) (k / 18)); omega) (by decide)
        · exact nxt 0 (by rw [fe1, tn0 q]; rfl)
        · refine Exists.intro k (And.intro (And.intro hk rfl) ?_)
          refine jx_cal (S_M_frame (x := k % 18) (y := k / 18) (by omega) (by omega)) rfl (fun r h' hq => ?_)
          obtain ⟨rfl, rfl⟩ := hq
          refine pk_eq (D (k % 18) (k / 18)).toNat (fr (k % 18) (k / 18)).toNat (fun z => ?_) (fun z => ?_) (hD k hk) rfl (by have := toNat_le (D (k % 18) (k / 18)); omega) (by have := toNat_le (fr (k % 18) (k / 18)); omega)
          · exact nxt 0 (by rw [fe1, if_pos (tn1 q), ff, if_pos (toNat_inj.mp z)])
          · exact nxt 1 (by rw [fe1, if_pos (tn1 q), ff, if_neg (fun w => z (toNat_inj.mpr w))])
      refine rule (fun n => Nat.beq 51 n) 40 4 _ _ _ ?_
      refine pk_le 324 k (fun q => absurd q (by omega)) (fun _ => ?_)
      refine And.intro (by decide) ?_
      refine And.intro (by decide) ?_
      have er : nI k - nI k / nI 18 * nI 18 = nI (k % 18) := jn_rem (by omega) (by decide) (by decide)
      have ed : nI k / nI 18 = nI (k / 18) := pk_div (by omega) (by decide) (by decide)
      have leaf : ∀ v, v = (edge (k % 18) (k / 18)).toNat → V 51 [some (jR 20 0), some (jI (nI (sm (fe1 D) 0 k))), some (jI (nI k)), some (jI (nI k - nI k / nI 18 * nI 18)), some (jI (nI k / nI 18)), some (jI (nI v))] [] h := fun v hv => jv_to (V := V) mid (by rw [er, ed, hv]) rfl rfl
      refine pk_eq (k % 18) 0 (fun q1 => ?_) (fun q1 => ?_) er rfl
      · exact leaf 1 (by simp [edge, q1])
      refine pk_eq (k / 18) 0 (fun q2 => ?_) (fun q2 => ?_) ed rfl
      · exact leaf 1 (by rw [edge, decide_eq_true q2]; simp)
      refine pk_eq (k % 18) 17 (fun q3 => ?_) (fun q3 => ?_) er rfl
      · exact leaf 1 (by simp [edge, q3])
      refine pk_eq (k / 18) 17 (fun q4 => ?_) (fun q4 => ?_) ed rfl
      · exact leaf 1 (by rw [edge, decide_eq_true q4]; simp)
      · exact leaf 0 (by rw [edge, decide_eq_false q1, decide_eq_false q2, decide_eq_false q3, decide_eq_false q4]; rfl))
  refine rule (Nat.beq 4) 10 0 _ _ _ ?_
  exact loop 0 (Nat.zero_le _) none none none
abbrev hM4 (h : jxH) (a b e d : Nat → Int32) : jxH := jx_st (jx_st (jx_st (jx_st h 26 0 a) 27 0 b) 29 0 e) 28 0 d
theorem hM4_26 (h : jxH) (a b e d f : Nat → Int32) : jx_st (hM4 h a b e d) 26 0 f = hM4 h f b e d := by
  unfold hM4
  rw [jx_sc (show 28 ≠ 26 by decide), jx_sc (show 29 ≠ 26 by decide), jx_sc (show 27 ≠ 26 by decide), jx_st_st]
theorem hM4_27 (h : jxH) (a b e d f : Nat → Int32) : jx_st (hM4 h a b e d) 27 0 f = hM4 h a f e d := by
  unfold hM4
  rw [jx_sc (show 28 ≠ 27 by decide), jx_sc (show 29 ≠ 27 by decide), jx_st_st]
theorem hM4_29 (h : jxH) (a b e d f : Nat → Int32) : jx_st (hM4 h a b e d) 29 0 f = hM4 h a b f d := by
  unfold hM4
  rw [jx_sc (show 28 ≠ 29 by decide), jx_st_st]
theorem hM4_28 (h : jxH) (a b e d f : Nat → Int32) : jx_st (hM4 h a b e d) 28 0 f = hM4 h a b e f := by
  unfold hM4
  rw [jx_st_st]
theorem hM4_id (h : jxH) : hM4 h (h 26 0) (h 27 0) (h 29 0) (h 28 0) = h := by
  unfold hM4
  rw [jx_st_id, jx_st_id, jx_st_id, jx_st_id]
theorem sv_4 (g : Nat → Bool) : sv g 4 = (((if g 0 = true then 2 ^ 0 else 0) ||| (if g 1 = true then 2 ^ 1 else 0)) ||| (if g 2 = true then 2 ^ 2 else 0)) ||| (if g 3 = true then 2 ^ 3 else 0) := by
  unfold sv sv sv sv sv
  cases g 0 <;> cases g 1 <;> cases g 2 <;> cases g 3 <;> rfl
theorem cor_neg (s : Nat → Nat) : (cor s).1 < 0 ↔ (cor s).1 = -nI 1 := by
  unfold cor
  split
  · show nI 0 < 0 ↔ nI 0 = -nI 1
    decide
  · split
    · show nI 1 < 0 ↔ nI 1 = -nI 1
      decide
    · split
      · show nI 2 < 0 ↔ nI 2 = -nI 1
        decide
      · show -nI 1 < 0 ↔ -nI 1 = -nI 1
        decide
theorem S_M_readRows {t : Nat} {D : Nat → Nat → Bool} {h : jxH} (hw : AR (h 23 0) 15 16 gf_pw) (hD : SN (h 24 0) (tu t D)) : jx_MW 106 [jR 20 0] h (fun r h' => r = nI (alw D t 4).toNat ∧ ∃ a b e d, h' = hM4 h a b e d ∧ (∀ r, r < 4 → e r = (cor (rw9 D t r)).1) ∧ AR d 44 16 (rdd D t)) := by
  refine jx_MW_by [some (jR 20 0), none, none, none, none, none] (by decide) rfl (Nat.le_of_ble_eq_true rfl) (fun V rule => ?_)
  have loop := jl_up (P := fun n => ∀ (o3 o4 o5 : Option jxV) (a b e d : Nat → Int32), (∀ r, r < n → e r = (cor (rw9 D t r)).1) → (∀ k, k < 11 * n → d k = nI (rdd D t k) ∧ rdd D t k < 16) → V 4 [some (jR 20 0), some (jI (nI (alw D t n).toNat)), some (jI (nI n)), o3, o4, o5] [] (hM4 h a b e d)) 4
    (by
      intro o3 o4 o5 a b e d he hd
      refine rule (fun _ => false) 10 4 _ _ _ ?_
      refine pk_le 4 4 (fun _ => ?_) (fun q => absurd q (Nat.lt_irrefl _))
      exact And.intro (b01 _) (And.intro rfl (Exists.intro a (Exists.intro b (Exists.intro e (Exists.intro d (And.intro rfl (And.intro he (fun k hk => hd k hk)))))))))
    (fun n hn ih => by
      intro o3 o4 o5 a b e d he hd
      have give := fun (o4 o5 : Option jxV) (a b e : Nat → Int32) (he : ∀ r, r < n + 1 → e r = (cor (rw9 D t r)).1) (ha : AR a 15 16 (cor (rw9 D t n)).2) => jl_up (P := fun i => 4 ≤ i → ∀ d : Nat → Int32, (∀ k, k < 11 * n + (i - 4) → d k = nI (rdd D t k) ∧ rdd D t k < 16) → V 130 [some (jR 20 0), some (jI (nI (alw D t (n + 1)).toNat)), some (jI (nI n)), some (jI (nI i)), o4, o5] [] (hM4 h a b e d)) 15
        (by
          intro _ d hd
          refine rule (Nat.beq 4) 20 130 _ _ _ ?_
          refine pk_le 15 15 (fun _ => ?_) (fun q => absurd q (Nat.lt_irrefl _))
          exact jv_to (V := V) (ih (some (jI (nI 15))) o4 o5 a b e d he (fun k hk => hd k (by omega))) (by rw [nI_add]) rfl rfl)
        (fun i hi ih2 => by
          intro hi4 d hd
          refine rule (Nat.beq 130) 30 130 _ _ _ ?_
          refine pk_le 15 i (fun q => absurd q (by omega)) (fun _ => ?_)
          refine Exists.intro i (And.intro (And.intro hi rfl) ?_)
          have ei : nI 11 * nI n + nI i - nI 4 = nI (11 * n + (i - 4)) := by
            rw [pk_mul, nI_add, show nI (11 * n + i) - nI 4 = nI (11 * n + i - 4) from pk_sub (show 4 ≤ 11 * n + i by omega), show 11 * n + i - 4 = 11 * n + (i - 4) by omega]
          refine Exists.intro (11 * n + (i - 4)) (And.intro (And.intro (by omega) ei) ?_)
          have ev : hM4 h a b e d 26 0 i = nI ((cor (rw9 D t n)).2 i) := ha.at hi
          refine jv_to (V := V) (ih2 (by omega) (upd d (11 * n + (i - 4)) (nI ((cor (rw9 D t n)).2 i))) (fun k hk => ?_)) (by rw [nI_add]) rfl (by rw [ev, hM4_28, show hM4 h a b e d 28 0 = d from jx_st_same _ _ _ _])
          by_cases hki : k = 11 * n + (i - 4)
          · subst hki
            rw [upd_same, rdd, show (11 * n + (i - 4)) / 11 = n by omega, show 4 + (11 * n + (i - 4)) % 11 = i by omega]
            exact ⟨rfl, ha.lt hi⟩
          · rw [upd_ne _ _ hki]
            exact hd k (by omega))
      have fill := jl_up (P := fun i => ∀ (o4 o5 : Option jxV) (a : Nat → Int32), (∀ k, k < i → a k = nI (rw9 D t n k)) → V 11 [some (jR 20 0), some (jI (nI (alw D t n).toNat)), some (jI (nI n)), some (jI (nI i)), o4, o5] [] (hM4 h a b e d)) 15
        (by
          intro o4 o5 a ha
          refine rule (Nat.beq 130) 60 11 _ _ _ ?_
          refine pk_le 15 15 (fun _ => ?_) (fun q => absurd q (Nat.lt_irrefl _))
          have ha' : AR (hM4 h a b e d 26 0) 15 16 (rw9 D t n) := fun k hk => ⟨ha k hk, rdS_lt _ _⟩
          have hw' : AR (hM4 h a b e d 23 0) 15 16 gf_pw := hw
          refine jx_cal (S_M_correct hw' ha') rfl (fun q h2 hq => ?_)
          obtain ⟨rfl, a2, b2, rfl, ga2⟩ := hq
          rw [hM4_27, hM4_26]
          refine Exists.intro n (And.intro (And.intro hn rfl) ?_)
          rw [hM4_29]
          have he2 : ∀ r, r < n + 1 → upd e n (cor (rw9 D t n)).1 r = (cor (rw9 D t r)).1 := fun r hr => by
            by_cases hrn : r = n
            · subst hrn; exact upd_same _ _ _
            · rw [upd_ne _ _ hrn]; exact he r (by omega)
          have ev : hM4 h a2 b2 (upd e n (cor (rw9 D t n)).1) d 29 0 n = (cor (rw9 D t n)).1 := upd_same _ _ _
          have leaf := fun (c : Bool) (hc : alw D t (n + 1) = c) => jv_to (V := V) (give o4 o5 a2 b2 (upd e n (cor (rw9 D t n)).1) he2 ga2 4 (by decide) (Nat.le_refl _) d (fun k hk => hd k (by omega))) (show [some (jR 20 0), some (jI (nI c.toNat)), some (jI (nI n)), some (jI (nI 4)), o4, o5] = _ by rw [hc]) rfl rfl
          refine pk_eq (alw D t n).toNat 0 (fun q => ?_) (fun q => ?_) rfl rfl (by have := toNat_le (alw D t n); omega) (by decide)
          · exact leaf false (by rw [alw, tn0 q]; rfl)
          · refine Exists.intro n (And.intro (And.intro hn rfl) ?_)
            refine br_c (fun q1 => ?_) (fun q1 => ?_)
            · have q2 : (cor (rw9 D t n)).1 = -nI 1 := (cor_neg _).mp (ev ▸ q1)
              exact leaf false (by rw [alw, tn1 q, q2]; decide)
            · have q2 : ¬ (cor (rw9 D t n)).1 = -nI 1 := fun z => q1 (ev.symm ▸ (cor_neg _).mpr z)
              exact leaf true (by rw [alw, tn1 q]; simp [q2]))
        (fun i hi ih2 => by
          intro o4 o5 a ha
          refine rule (Nat.beq 11) 70 11 _ _ _ ?_
          refine pk_le 15 i (fun q => absurd q (by omega)) (fun _ => ?_)
          have hbx : bX (4 * i + n) ≤ 15 := by unfold bX; omega
          have hby : bY (4 * i + n) ≤ 15 := by unfold bY; omega
          have eb : nI 4 * nI i + nI n = nI (4 * i + n) := by rw [pk_mul, nI_add]
          have ea : nI 18 * (nI 1 + nI 2 * ((nI 4 * nI i + nI n) / nI 8)) + nI 1 + nI 2 * (nI 4 * nI i + nI n - (nI 4 * nI i + nI n) / nI 8 * nI 8) = nI (18 * bY (4 * i + n) + bX (4 * i + n)) := by
            rw [eb, jn_rem (by omega) (by decide) (by decide), pk_div (by omega) (by decide) (by decide), pk_mul, pk_mul, nI_add, pk_mul, nI_add, nI_add]
            congr 1
            unfold bX bY
            omega
          refine And.intro (by decide) ?_
          refine And.intro (by decide) ?_
          have hb9 : ∀ aa dd, BA (hM4 h aa b e dd 24 0) 324 (fun k => tu t D (k % 18) (k / 18)) := fun _ _ => hD
          refine jx_cal (S_M_bit (a := 18 * bY (4 * i + n) + bX (4 * i + n)) (k := 0) (hb9 a d) (by omega) (by decide)) (congrArg (fun z => [jR 20 0, jI z, jI (nI 0)]) ea) (fun q h2 hq => ?_)
          obtain ⟨rfl, rfl⟩ := hq
          refine jx_cal (S_M_bit (a := 18 * bY (4 * i + n) + bX (4 * i + n) + 1) (k := 1) (hb9 a d) (by omega) (by decide)) (by rw [ea, nI_add]) (fun q h2 hq => ?_)
          obtain ⟨rfl, rfl⟩ := hq
          refine jx_cal (S_M_bit (a := 18 * bY (4 * i + n) + bX (4 * i + n) + 18) (k := 2) (hb9 a d) (by omega) (by decide)) (by rw [ea, nI_add]) (fun q h2 hq => ?_)
          obtain ⟨rfl, rfl⟩ := hq
          refine jx_cal (S_M_bit (a := 18 * bY (4 * i + n) + bX (4 * i + n) + 19) (k := 3) (hb9 a d) (by omega) (by decide)) (by rw [ea, nI_add]) (fun q h2 hq => ?_)
          obtain ⟨rfl, rfl⟩ := hq
          refine Exists.intro i (And.intro (And.intro hi rfl) ?_)
          generalize hY : bY (4 * i + n) = Y at *
          generalize hX : bX (4 * i + n) = X at *
          have es : rw9 D t n i = (((if tu t D ((18 * Y + X) % 18) ((18 * Y + X) / 18) = true then 2 ^ 0 else 0) ||| (if tu t D ((18 * Y + X + 1) % 18) ((18 * Y + X + 1) / 18) = true then 2 ^ 1 else 0)) ||| (if tu t D ((18 * Y + X + 18) % 18) ((18 * Y + X + 18) / 18) = true then 2 ^ 2 else 0)) ||| (if tu t D ((18 * Y + X + 19) % 18) ((18 * Y + X + 19) / 18) = true then 2 ^ 3 else 0) := by
            rw [rw9, rdS, sv_4, hX, hY, show (18 * Y + X) % 18 = X by omega, show (18 * Y + X) / 18 = Y by omega, show (18 * Y + X + 1) % 18 = X + 1 by omega, show (18 * Y + X + 1) / 18 = Y by omega, show (18 * Y + X + 18) % 18 = X by omega, show (18 * Y + X + 18) / 18 = Y + 1 by omega, show (18 * Y + X + 19) % 18 = X + 1 by omega, show (18 * Y + X + 19) / 18 = Y + 1 by omega]
            rfl
          refine jv_to (V := V) (ih2 _ _ (upd a i (nI (rw9 D t n i))) (fun k hk => ?_)) (by rw [nI_add]) rfl (by rw [hM4_26, jn_or, jn_or, jn_or, es]; rfl)
          by_cases hki : k = i
          · subst hki; exact upd_same _ _ _
          · rw [upd_ne _ _ hki]; exact ha k (by omega))
      refine rule (Nat.beq 11) 20 4 _ _ _ ?_
      refine pk_le 4 n (fun q => absurd q (by omega)) (fun _ => ?_)
      exact fill 0 (Nat.zero_le _) o4 o5 a (fun k hk => absurd hk (Nat.not_lt_zero _)))
  refine rule (Nat.beq 4) 10 0 _ _ _ ?_
  exact jv_to (V := V) (loop 0 (Nat.zero_le _) none none none (h 26 0) (h 27 0) (h 29 0) (h 28 0) (fun r hr => absurd hr (Nat.not_lt_zero _)) (fun k hk => absurd hk (Nat.not_lt_zero _))) rfl rfl (hM4_id h).symm
theorem S_M_keep {kp nd ln : Nat} {d : Nat → Nat} {b : Nat → Bool} {h : jxH} (hk : h 20 0 12 = nI kp) (hn : h 20 0 13 = nI nd) (hl : h 20 0 14 = nI ln) (hb : BA (h 30 0) 6 b) (hd : AR (h 28 0) 44 16 d) (hk9 : kp < 100) (hn9 : nd < 1000) (hl9 : ln < 1000) : jx_MW 29 [jR 20 0] h (fun r h' =>
    (tp d = false ∧ r = -nI 1 ∧ h' = h) ∨ (tp d = true ∧
      ((¬ kp = 0 ∧ ¬ (d 1 = nd ∧ d 2 + 16 * d 3 = ln) ∧ r = -nI 2 ∧ h' = h) ∨
       ((kp = 0 ∨ (d 1 = nd ∧ d 2 + 16 * d 3 = ln)) ∧ r = nI (d 0) ∧ (b (d 0) = true → h' = h) ∧
        (b (d 0) = false → ∃ f, h' = jx_st (jx_st (jx_st h 30 0 (upd (h 30 0) (d 0) (nI 1))) 20 0 (upd (upd (upd (h 20 0) 12 (nI (kp + 1))) 13 (nI (d 1))) 14 (nI (d 2 + 16 * d 3)))) 31 0 f ∧ ∀ k, f k = if 40 * d 0 ≤ k ∧ k < 40 * d 0 + 40 then nI (d (4 + (k - 40 * d 0))) else h 31 0 k))))) := by
  refine jx_MW_by [some (jR 20 0), none, none, none, none] (by decide) rfl (Nat.le_of_ble_eq_true rfl) (fun V rule => ?_)
  have d0 := hd.lt (show 0 < 44 by decide)
  have d1 := hd.lt (show 1 < 44 by decide)
  have d2 := hd.lt (show 2 < 44 by decide)
  have d3 := hd.lt (show 3 < 44 by decide)
  have a0 := hd.at (show 0 < 44 by decide)
  have a1 := hd.at (show 1 < 44 by decide)
  have a2 := hd.at (show 2 < 44 by decide)
  have a3 := hd.at (show 3 < 44 by decide)
  have esz : h 28 0 2 + nI 16 * h 28 0 3 = nI (d 2 + 16 * d 3) := by rw [a2, a3, pk_mul, nI_add]
  have store : tp d = true → (kp = 0 ∨ (d 1 = nd ∧ d 2 + 16 * d 3 = ln)) → V 95 [some (jR 20 0), some (jI (nI (d 0))), some (jI (nI (d 1))), some (jI (nI (d 2 + 16 * d 3))), none] [] h := by
    intro ht hm
    have ht2 := ht
    simp only [tp, Bool.and_eq_true, decide_eq_true_eq] at ht2
    cases hbd : b (d 0) with
    | true =>
      refine rule (fun _ => false) 20 95 _ _ _ ?_
      refine Exists.intro (d 0) (And.intro (And.intro (by omega) rfl) ?_)
      refine pk_eq 1 0 (fun z => absurd z (by decide)) (fun _ => ?_) (by rw [hb (d 0) (by omega), hbd]; rfl) rfl
      exact Or.inr (And.intro ht (Or.inr (And.intro hm (And.intro rfl (And.intro (fun _ => rfl) (fun z => absurd (hbd.symm.trans z) (by decide)))))))
    | false =>
      have loop := jl_up (P := fun m => ∀ f : Nat → Int32, (∀ k, f k = if 40 * d 0 ≤ k ∧ k < 40 * d 0 + m then nI (d (4 + (k - 40 * d 0))) else h 31 0 k) → V 134 [some (jR 20 0), some (jI (nI (d 0))), some (jI (nI (d 1))), some (jI (nI (d 2 + 16 * d 3))), some (jI (nI m))] [] (jx_st (jx_st (jx_st h 30 0 (upd (h 30 0) (d 0) (nI 1))) 20 0 (upd (upd (upd (h 20 0) 12 (nI (kp + 1))) 13 (nI (d 1))) 14 (nI (d 2 + 16 * d 3)))) 31 0 f)) 40
        (by
          intro f hf
          refine rule (fun _ => false) 20 134 _ _ _ ?_
          refine pk_le 40 40 (fun _ => ?_) (fun q => absurd q (Nat.lt_irrefl _))
          exact Or.inr (And.intro ht (Or.inr (And.intro hm (And.intro rfl (And.intro (fun z => absurd (hbd.symm.trans z) (by decide)) (fun _ => Exists.intro f (And.intro rfl hf))))))))
        (fun m hm9 ih => by
          intro f hf
          refine rule (Nat.beq 134) 40 134 _ _ _ ?_
          refine pk_le 40 m (fun q => absurd q (by omega)) (fun _ => ?_)
          refine Exists.intro (4 + m) (And.intro (And.intro (by omega) (nI_add 4 m)) ?_)
          refine Exists.intro (40 * d 0 + m) (And.intro (And.intro (by omega) (by rw [pk_mul, nI_add])) ?_)
          refine jv_to (V := V) (ih (upd f (40 * d 0 + m) (nI (d (4 + m)))) (fun k => ?_)) (by rw [nI_add]) rfl ?_
          · by_cases hk9 : k = 40 * d 0 + m
            · subst hk9
              rw [upd_same, if_pos (by omega), show 40 * d 0 + m - 40 * d 0 = m by omega]
            · rw [upd_ne _ _ hk9, hf k]
              exact if_iff ⟨fun z => by omega, fun z => by omega⟩
          · rw [jx_st_same, jx_st_st]
            show jx_st _ 31 0 (upd f (40 * d 0 + m) (h 28 0 (4 + m))) = _
            rw [hd.at (show 4 + m < 44 by omega)])
      refine rule (Nat.beq 134) 60 95 _ _ _ ?_
      refine Exists.intro (d 0) (And.intro (And.intro (by omega) rfl) ?_)
      refine pk_eq 0 0 (fun _ => ?_) (fun z => absurd rfl z) (by rw [hb (d 0) (by omega), hbd]; rfl) rfl
      refine Exists.intro (d 0) (And.intro (And.intro (by omega) (And.intro rfl (Or.inr rfl))) ?_)
      refine jv_to (V := V) (loop 0 (Nat.zero_le _) (h 31 0) (fun k => by rw [if_neg (by omega)])) rfl rfl ?_
      rw [jx_st_same, jx_st_st, jx_st_same, jx_st_st]
      show jx_st (jx_st h 30 0 (upd (h 30 0) (d 0) (nI 1))) 20 0 (upd (upd (upd (h 20 0) 12 (h 20 0 12 + nI 1)) 13 (nI (d 1))) 14 (nI (d 2 + 16 * d 3))) = _
      rw [hk, nI_add]
      exact (jx_st_id _ 31 0).symm
  refine rule (Nat.beq 95) 100 0 _ _ _ ?_
  refine Exists.intro 0 (And.intro (And.intro (by decide) rfl) ?_)
  refine Exists.intro 1 (And.intro (And.intro (by decide) rfl) ?_)
  refine Exists.intro 2 (And.intro (And.intro (by decide) rfl) ?_)
  refine Exists.intro 3 (And.intro (And.intro (by decide) rfl) ?_)
  refine pk_lt (d 1) 1 (fun q => ?_) (fun q1 => ?_) a1 rfl
  · exact Or.inl (And.intro (by simp [tp, show ¬ 1 ≤ d 1 by omega]) (And.intro rfl rfl))
  refine pk_lt 4 (d 1) (fun q => ?_) (fun q2 => ?_) rfl a1
  · exact Or.inl (And.intro (by simp [tp, show ¬ d 1 ≤ 4 by omega]) (And.intro rfl rfl))
  refine pk_lt (d 1 + 1) (d 0) (fun q => ?_) (fun q3 => ?_) (by rw [a1, nI_add]) a0
  · exact Or.inl (And.intro (by simp [tp, show ¬ d 0 ≤ d 1 + 1 by omega]) (And.intro rfl rfl))
  have em : nI 20 * h 28 0 1 - nI 19 = nI (20 * d 1 - 19) := by rw [a1, pk_mul]; exact pk_sub (by omega)
  refine pk_lt (d 2 + 16 * d 3) (20 * d 1 - 19) (fun q => ?_) (fun q4 => ?_) esz em
  · exact Or.inl (And.intro (by simp [tp, show ¬ 20 * d 1 < d 2 + 16 * d 3 + 20 by omega]) (And.intro rfl rfl))
  refine pk_le (d 2 + 16 * d 3) (20 * d 1) (fun q5 => ?_) (fun q => ?_) esz (by rw [a1, pk_mul])
  · have ht : tp d = true := by simp [tp, q1, q2, q3, q5, show 20 * d 1 < d 2 + 16 * d 3 + 20 by omega]
    have leaf := fun hm => jv_to (V := V) (store ht hm) (show [some (jR 20 0), some (jI (h 28 0 0)), some (jI (h 28 0 1)), some (jI (h 28 0 2 + nI 16 * h 28 0 3)), none] = _ by rw [a0, a1, esz]) rfl rfl
    refine pk_le kp 0 (fun q6 => ?_) (fun q6 => ?_) hk rfl
    · exact leaf (Or.inl (by omega))
    refine pk_eq (d 1) nd (fun q7 => ?_) (fun q7 => ?_) a1 hn
    · refine pk_eq (d 2 + 16 * d 3) ln (fun q8 => ?_) (fun q8 => ?_) esz hl
      · exact leaf (Or.inr ⟨q7, q8⟩)
      · exact Or.inr (And.intro ht (Or.inl (And.intro (by omega) (And.intro (fun z => q8 z.2) (And.intro rfl rfl)))))
    · exact Or.inr (And.intro ht (Or.inl (And.intro (by omega) (And.intro (fun z => q7 z.1) (And.intro rfl rfl)))))
  · exact Or.inl (And.intro (by simp [tp, show ¬ d 2 + 16 * d 3 ≤ 20 * d 1 by omega]) (And.intro rfl rfl))
end
section
/-! The reference: feed. -/
def FX (h h' : jxH) : Prop := ∀ k i, k ≠ 24 → k ≠ 25 → k ≠ 26 → k ≠ 27 → k ≠ 28 → k ≠ 29 → h' k i = h k i
theorem FX.st {h hh : jxH} (H : FX h hh) {k : Nat} (i : Nat) (f : Nat → Int32) (hk : k = 24 ∨ k = 25 ∨ k = 26 ∨ k = 27 ∨ k = 28 ∨ k = 29) : FX h (jx_st hh k i f) := fun k' i' h1 h2 h3 h4 h5 h6 => by
  rw [jx_st_ne (fun z => by cases z; omega)]
  exact H k' i' h1 h2 h3 h4 h5 h6
theorem tu_succ (D : Nat → Nat → Bool) {s x y : Nat} (hs : s < 4) (hx : x < 18) (hy : y < 18) : tu 1 (tu s D) x y = tu ((s + 1) % 4) D x y := by
  rcases (show s = 0 ∨ s = 1 ∨ s = 2 ∨ s = 3 by omega) with rfl | rfl | rfl | rfl
  · rfl
  · rfl
  · show D (17 - y) (17 - (17 - x)) = D (17 - y) x
    rw [show 17 - (17 - x) = x by omega]
  · show D (17 - (17 - x)) y = D x y
    rw [show 17 - (17 - x) = x by omega]
def fdK (h1 : jxH) (kp nd ln : Nat) (b : Nat → Bool) (d : Nat → Nat) (r : Int32) (h' : jxH) : Prop :=
  (¬ kp = 0 ∧ ¬ (d 1 = nd ∧ d 2 + 16 * d 3 = ln) ∧ r = -nI 2 ∧ h' = h1) ∨
  ((kp = 0 ∨ (d 1 = nd ∧ d 2 + 16 * d 3 = ln)) ∧ r = nI (d 0) ∧ (b (d 0) = true → h' = h1) ∧
    (b (d 0) = false → ∃ f, h' = jx_st (jx_st (jx_st h1 30 0 (upd (h1 30 0) (d 0) (nI 1))) 20 0 (upd (upd (upd (h1 20 0) 12 (nI (kp + 1))) 13 (nI (d 1))) 14 (nI (d 2 + 16 * d 3)))) 31 0 f ∧ ∀ k, f k = if 40 * d 0 ≤ k ∧ k < 40 * d 0 + 40 then nI (d (4 + (k - 40 * d 0))) else h1 31 0 k))
def fdE (h : jxH) (D : Nat → Nat → Bool) (t kp nd ln : Nat) (b : Nat → Bool) (r : Int32) (h' : jxH) : Prop := ∃ h1, FX (thr h 0) h1 ∧
  ((8 < ftn D (rdT D t) ∧ r = -nI 1 ∧ (∀ j, j < 4 → h1 29 0 j = -nI 2) ∧ h' = h1) ∨
   (ftn D (rdT D t) ≤ 8 ∧ (∀ j, j < 4 → h1 29 0 j = (cor (rw9 D (rdT D t) j)).1) ∧
    (((alw D (rdT D t) 4 && tp (rdd D (rdT D t))) = false ∧ r = -nI 1 ∧ h' = h1) ∨
     ((alw D (rdT D t) 4 && tp (rdd D (rdT D t))) = true ∧ (∀ k, k < 44 → rdd D (rdT D t) k < 16) ∧ fdK h1 kp nd ln b (rdd D (rdT D t)) r h'))))
theorem S_M_feed {pg tn : Int32} {P kp nd ln : Nat} {b : Nat → Bool} {DD : Nat → Nat → Nat → Bool} {h : jxH} (hw : AR (h 23 0) 15 16 gf_pw) (hP : h 20 0 3 = nI P) (hP6 : P ≤ 6) (hD : ∀ p, p < 6 → PA (h 22 0) p (DD p)) (hk : h 20 0 12 = nI kp) (hn : h 20 0 13 = nI nd) (hl : h 20 0 14 = nI ln) (hb : BA (h 30 0) 6 b) (hk9 : kp < 100) (hn9 : nd < 1000) (hl9 : ln < 1000) : jx_MW 110 [jR 20 0, jI pg, jI tn] h
    (fun r h' => ((hp9 pg P && hp9 tn 4) = true → ∀ p t, p < P → t < 4 → pg = nI p → tn = nI t → fdE h (DD p) t kp nd ln b r h') ∧ ((hp9 pg P && hp9 tn 4) = false → h' = thr h 1)) := by
  refine jx_MW_by [some (jR 20 0), some (jI pg), some (jI tn), none, none, none, none] (by decide) rfl (Nat.le_of_ble_eq_true rfl) (fun V rule => ?_)
  have e3 : tn ≤ nI 3 ↔ tn < nI 4 := by
    rw [Int32.le_iff_toInt_le, Int32.lt_iff_toInt_lt, show (nI 3).toInt = 3 from nI_toInt (by decide), show (nI 4).toInt = 4 from nI_toInt (by decide)]
    omega
  cases e : hp9 pg P && hp9 tn 4 with
  | false =>
    have bad : ∀ r, ((hp9 pg P && hp9 tn 4) = true → ∀ p t, p < P → t < 4 → pg = nI p → tn = nI t → fdE h (DD p) t kp nd ln b r (thr h 1)) ∧ ((hp9 pg P && hp9 tn 4) = false → thr h 1 = thr h 1) := fun r => And.intro (fun z => absurd (e.symm.trans z) (by decide)) (fun _ => rfl)
    refine rule (fun _ => false) 60 0 _ _ _ ?_
    refine br_c (fun q1 => ?_) (fun q1 => ?_)
    · refine pk_eq 1 0 (fun z => absurd z (by decide)) (fun _ => ?_)
      exact bad _
    refine br_c (fun q2 => ?_) (fun q2 => ?_)
    · refine pk_eq 1 0 (fun z => absurd z (by decide)) (fun _ => ?_)
      exact bad _
    refine br_c (fun q3 => ?_) (fun q3 => ?_)
    · refine pk_eq 1 0 (fun z => absurd z (by decide)) (fun _ => ?_)
      exact bad _
    refine br_c (fun q4 => ?_) (fun q4 => ?_)
    · have z2 : pg < nI P := by rw [← hP]; exact Int32.not_le.mp q2
      have z4 : tn < nI 4 := e3.mp q4
      rw [hp9, hp9, decide_eq_true q1, decide_eq_true q3, decide_eq_true z2, decide_eq_true z4] at e
      cases e
    · refine pk_eq 1 0 (fun z => absurd z (by decide)) (fun _ => ?_)
      exact bad _
  | true =>
    have e9 := e
    rw [Bool.and_eq_true] at e
    obtain ⟨p, hp, rfl⟩ := hp9_t (by omega) e.1
    obtain ⟨t, ht, rfl⟩ := hp9_t (by decide) e.2
    have fin : ∀ r h', fdE h (DD p) t kp nd ln b r h' → (((hp9 (nI p) P && hp9 (nI t) 4) = true → ∀ p' t', p' < P → t' < 4 → nI p = nI p' → nI t = nI t' → fdE h (DD p') t' kp nd ln b r h') ∧ ((hp9 (nI p) P && hp9 (nI t) 4) = false → h' = thr h 1)) := fun r h' hf => And.intro (fun _ p' t' h1 h2 e1 e2 => by
      rw [← jn_inj (by omega) (by omega) e1, ← jn_inj (by omega) (by omega) e2]
      exact hf) (fun z => absurd (e9.symm.trans z) (by decide))
    have hT : rdT (DD p) t < 4 := (ub_lt ht 3).1
    have hF : (ub (ftn (DD p)) t 3).2 = ftn (DD p) (rdT (DD p) t) := (ub_lt ht 3).2
    have hF9 := ftn_le (DD p) (rdT (DD p) t)
    -- turned upright
    have up := fun (bt : Nat) (hbt : bt < 4) (he : (t + bt) % 4 = rdT (DD p) t) (h8 : ftn (DD p) (rdT (DD p) t) ≤ 8) (l4 o6 : Option jxV) => jl_up (P := fun i => ∀ hh : jxH, FX (thr h 0) hh → SN (hh 24 0) (tu ((t + i) % 4) (DD p)) → V 187 [some (jR 20 0), some (jI (nI p)), some (jI (nI t)), some (jI (nI bt)), l4, some (jI (nI i)), o6] [] hh) bt
      (by
        intro hh hX hs
        refine rule (fun _ => false) 40 187 _ _ _ ?_
        refine pk_le bt bt (fun _ => ?_) (fun q => absurd q (Nat.lt_irrefl _))
        rw [he] at hs
        have hw' : AR (hh 23 0) 15 16 gf_pw := by rw [hX 23 0 (by decide) (by decide) (by decide) (by decide) (by decide) (by decide)]; exact hw
        refine jx_cal (S_M_readRows hw' hs) rfl (fun q h2 hq => ?_)
        obtain ⟨rfl, a, g, er, d, rfl, h29, h28⟩ := hq
        have hX2 : FX (thr h 0) (hM4 hh a g er d) := (((hX.st 0 a (by decide)).st 0 g (by decide)).st 0 er (by decide)).st 0 d (by decide)
        refine pk_eq (alw (DD p) (rdT (DD p) t) 4).toNat 0 (fun q => ?_) (fun q => ?_) rfl rfl (by have := toNat_le (alw (DD p) (rdT (DD p) t) 4); omega) (by decide)
        · exact fin _ _ (Exists.intro _ (And.intro hX2 (Or.inr (And.intro h8 (And.intro h29 (Or.inl (And.intro (by rw [tn0 q]; rfl) (And.intro rfl rfl))))))))
        · have x20 : hM4 hh a g er d 20 0 = thr h 0 20 0 := hX2 20 0 (by decide) (by decide) (by decide) (by decide) (by decide) (by decide)
          have hk' : hM4 hh a g er d 20 0 12 = nI kp := by rw [x20]; exact hk
          have hn' : hM4 hh a g er d 20 0 13 = nI nd := by rw [x20]; exact hn
          have hl' : hM4 hh a g er d 20 0 14 = nI ln := by rw [x20]; exact hl
          have hb' : BA (hM4 hh a g er d 30 0) 6 b := by rw [hX2 30 0 (by decide) (by decide) (by decide) (by decide) (by decide) (by decide)]; exact hb
          have hd' : AR (hM4 hh a g er d 28 0) 44 16 (rdd (DD p) (rdT (DD p) t)) := h28
          refine jx_cal (S_M_keep hk' hn' hl' hb' hd' hk9 hn9 hl9) rfl (fun r h3 hq => ?_)
          rcases hq with ⟨k1, rfl, rfl⟩ | ⟨k1, k2⟩
          · exact fin _ _ (Exists.intro _ (And.intro hX2 (Or.inr (And.intro h8 (And.intro h29 (Or.inl (And.intro (by rw [tn1 q, k1]; rfl) (And.intro rfl rfl))))))))
          · exact fin _ _ (Exists.intro _ (And.intro hX2 (Or.inr (And.intro h8 (And.intro h29 (Or.inr (And.intro (by rw [tn1 q, k1]; rfl) (And.intro (fun k hk => h28.lt hk) k2))))))))
      )
      (fun i hi ih => by
        intro hh hX hs
        refine rule (Nat.beq 187) 20 187 _ _ _ ?_
        refine pk_le bt i (fun q => absurd q (by omega)) (fun _ => ?_)
        refine jx_cal (S_M_turn hs) rfl (fun r h' hq => ?_)
        obtain ⟨g, f, rfl, hf⟩ := hq
        refine jv_to (V := V) (ih _ ((hX.st 0 g (by decide)).st 0 f (by decide)) ?_) (by rw [nI_add]) rfl rfl
        rw [jx_st_same]
        refine hf.congr (fun x y hx hy => ?_)
        rw [tu_succ _ (Nat.mod_lt _ (by decide)) hx hy, show ((t + i) % 4 + 1) % 4 = (t + (i + 1)) % 4 by omega])
    -- the errors forgotten
    have fg := fun (bt : Nat) (hbt : bt < 4) (he : (t + bt) % 4 = rdT (DD p) t) (o6 : Option jxV) => jl_up (P := fun i => ∀ hh : jxH, FX (thr h 0) hh → SN (hh 24 0) (tu (t % 4) (DD p)) → (∀ j, j < i → hh 29 0 j = -nI 2) → V 154 [some (jR 20 0), some (jI (nI p)), some (jI (nI t)), some (jI (nI bt)), some (jI (nI (ftn (DD p) (rdT (DD p) t)))), some (jI (nI i)), o6] [] hh) 4
      (by
        intro hh hX hs h29
        refine rule (Nat.beq 187) 20 154 _ _ _ ?_
        refine pk_le 4 4 (fun _ => ?_) (fun q => absurd q (Nat.lt_irrefl _))
        refine pk_le (ftn (DD p) (rdT (DD p) t)) 8 (fun q => ?_) (fun q => ?_) rfl rfl (by omega) (by decide)
        · exact up bt hbt he q (some (jI (nI (ftn (DD p) (rdT (DD p) t))))) o6 0 (Nat.zero_le _) hh hX hs
        · exact fin _ _ (Exists.intro _ (And.intro hX (Or.inl (And.intro q (And.intro rfl (And.intro h29 rfl)))))))
      (fun i hi ih => by
        intro hh hX hs h29
        refine rule (Nat.beq 154) 20 154 _ _ _ ?_
        refine pk_le 4 i (fun q => absurd q (by omega)) (fun _ => ?_)
        refine Exists.intro i (And.intro (And.intro hi rfl) ?_)
        refine jv_to (V := V) (ih (jx_st hh 29 0 (upd (hh 29 0) i (-nI 2))) (hX.st 0 _ (by decide)) hs (fun j hj => ?_)) (by rw [nI_add]) rfl rfl
        rw [jx_st_same]
        by_cases hji : j = i
        · subst hji; exact upd_same _ _ _
        · rw [upd_ne _ _ hji]; exact h29 j (by omega))
    -- the best of four
    have best := jl_up (P := fun k => ∀ bt ls : Nat, (k = 0 → bt = 0 ∧ ls = 999) → (0 < k → bt < 4 ∧ (t + bt) % 4 = (ub (ftn (DD p)) t (k - 1)).1 ∧ ls = (ub (ftn (DD p)) t (k - 1)).2) → ∀ (o6 : Option jxV) (hh : jxH), FX (thr h 0) hh → SN (hh 24 0) (tu ((t + k) % 4) (DD p)) → V 99 [some (jR 20 0), some (jI (nI p)), some (jI (nI t)), some (jI (nI bt)), some (jI (nI ls)), some (jI (nI k)), o6] [] hh) 4
      (by
        intro bt ls _ h4 o6 hh hX hs
        obtain ⟨h5, h6, h7⟩ := h4 (by decide)
        refine rule (Nat.beq 154) 20 99 _ _ _ ?_
        refine pk_le 4 4 (fun _ => ?_) (fun q => absurd q (Nat.lt_irrefl _))
        rw [show (t + 4) % 4 = t % 4 by omega] at hs
        exact jv_to (V := V) (fg bt h5 h6 o6 0 (Nat.zero_le _) hh hX hs (fun j hj => absurd hj (Nat.not_lt_zero _))) (by rw [h7, ← hF]) rfl rfl)
      (fun k hk ih => by
        intro bt ls h0 h4 o6 hh hX hs
        refine rule (Nat.beq 99) 60 99 _ _ _ ?_
        refine pk_le 4 k (fun q => absurd q (by omega)) (fun _ => ?_)
        refine jx_cal (S_M_frameErrors hs) rfl (fun r h' hq => ?_)
        obtain ⟨rfl, rfl⟩ := hq
        have f68 : ftn (DD p) ((t + k) % 4) ≤ 68 := ftn_le _ _
        have hls : ls < 1000 := by
          by_cases hk0 : k = 0
          · have := (h0 hk0).2; omega
          · have h8 := (h4 (by omega)).2.2
            have h9 := (ub_lt (F := ftn (DD p)) ht (k - 1)).2
            have h10 := ftn_le (DD p) (ub (ftn (DD p)) t (k - 1)).1
            omega
        have nxt : ∀ b2 l2, (b2 < 4 ∧ (t + b2) % 4 = (ub (ftn (DD p)) t k).1 ∧ l2 = (ub (ftn (DD p)) t k).2) → jx_MW 40 [jR 20 0] h' (fun r h3 => V 99 [some (jR 20 0), some (jI (nI p)), some (jI (nI t)), some (jI (nI b2)), some (jI (nI l2)), some (jI (nI k + nI 1)), some (jI (nI (fts (tu ((t + k) % 4) (DD p)) 17)))] [] h3) := by
          intro b2 l2 hb2
          refine jx_cal (S_M_turn hs) rfl (fun r h3 hq => ?_)
          obtain ⟨g, f, rfl, hf⟩ := hq
          refine jv_to (V := V) (ih b2 l2 (fun z => absurd z (by omega)) (fun _ => hb2) (some (jI (nI (fts (tu ((t + k) % 4) (DD p)) 17)))) _ ((hX.st 0 g (by decide)).st 0 f (by decide)) ?_) (by rw [nI_add]) rfl rfl
          rw [jx_st_same]
          refine hf.congr (fun x y hx hy => ?_)
          rw [tu_succ _ (Nat.mod_lt _ (by decide)) hx hy, show ((t + k) % 4 + 1) % 4 = (t + (k + 1)) % 4 by omega]
        refine pk_le ls (ftn (DD p) ((t + k) % 4)) (fun q => ?_) (fun q => ?_) rfl rfl (by omega) (by omega)
        · refine pk_le ls (ftn (DD p) ((t + k) % 4)) (fun _ => ?_) (fun z => absurd z (by omega)) rfl rfl (by omega) (by omega)
          have hk0 : 0 < k := by
            by_cases hk0 : k = 0
            · have := (h0 hk0).2; omega
            · omega
          refine nxt bt ls ?_
          obtain ⟨h5, h6, h7⟩ := h4 hk0
          have eu : ub (ftn (DD p)) t k = ub (ftn (DD p)) t (k - 1) := by
            obtain ⟨n, rfl⟩ : ∃ n, k = n + 1 := ⟨k - 1, by omega⟩
            rw [Nat.add_sub_cancel] at h7 ⊢
            rw [ub, if_neg (by omega)]
          rw [eu]
          exact ⟨h5, h6, h7⟩
        · refine pk_le ls (ftn (DD p) ((t + k) % 4)) (fun z => absurd z (by omega)) (fun _ => ?_) rfl rfl (by omega) (by omega)
          refine nxt k (ftn (DD p) ((t + k) % 4)) ⟨hk, ?_⟩
          by_cases hk0 : k = 0
          · subst hk0
            have et : (t + 0) % 4 = t := by omega
            rw [et]
            exact ⟨rfl, rfl⟩
          · obtain ⟨h5, h6, h7⟩ := h4 (by omega)
            obtain ⟨n, rfl⟩ : ∃ n, k = n + 1 := ⟨k - 1, by omega⟩
            rw [Nat.add_sub_cancel] at h7
            rw [ub, if_pos (by omega)]
            exact ⟨rfl, rfl⟩)
    -- turned as fed
    have turned := jl_up (P := fun i => ∀ hh : jxH, FX (thr h 0) hh → SN (hh 24 0) (tu i (DD p)) → V 74 [some (jR 20 0), some (jI (nI p)), some (jI (nI t)), some (jI (nI i)), none, none, none] [] hh) t
      (by
        intro hh hX hs
        refine rule (Nat.beq 99) 20 74 _ _ _ ?_
        refine pk_le t t (fun _ => ?_) (fun q => absurd q (Nat.lt_irrefl _))
        refine best 0 (Nat.zero_le _) 0 999 (fun _ => ⟨rfl, rfl⟩) (fun z => absurd z (Nat.lt_irrefl _)) none hh hX ?_
        rw [show (t + 0) % 4 = t by omega]
        exact hs)
      (fun i hi ih => by
        intro hh hX hs
        refine rule (Nat.beq 74) 20 74 _ _ _ ?_
        refine pk_le t i (fun q => absurd q (by omega)) (fun _ => ?_)
        refine jx_cal (S_M_turn hs) rfl (fun r h' hq => ?_)
        obtain ⟨g, f, rfl, hf⟩ := hq
        refine jv_to (V := V) (ih _ ((hX.st 0 g (by decide)).st 0 f (by decide)) ?_) (by rw [nI_add]) rfl rfl
        rw [jx_st_same]
        refine hf.congr (fun x y hx hy => ?_)
        rw [tu_succ _ (by omega) hx hy, show (i + 1) % 4 = i + 1 by omega])
    -- the page taken
    have copy := jl_up (P := fun k => ∀ f : Nat → Int32, (∀ j, j < k → f j = nI (DD p (j % 18) (j / 18)).toNat) → V 41 [some (jR 20 0), some (jI (nI p)), some (jI (nI t)), some (jI (nI k)), none, none, none] [] (jx_st (thr h 0) 24 0 f)) 324
      (by
        intro f hf
        refine rule (Nat.beq 74) 20 41 _ _ _ ?_
        refine pk_le 324 324 (fun _ => ?_) (fun q => absurd q (Nat.lt_irrefl _))
        refine turned 0 (Nat.zero_le _) _ (FX.st (fun _ _ _ _ _ _ _ _ => rfl) 0 f (by decide)) ?_
        rw [jx_st_same]
        exact hf)
      (fun k hk ih => by
        intro f hf
        refine rule (Nat.beq 41) 40 41 _ _ _ ?_
        refine pk_le 324 k (fun q => absurd q (by omega)) (fun _ => ?_)
        have ev : h 22 0 (324 * p + k) = nI (DD p (k % 18) (k / 18)).toNat := by
          have := hD p (by omega) (k % 18) (k / 18) (by omega) (by omega)
          rwa [show 324 * p + 18 * (k / 18) + k % 18 = 324 * p + k by omega] at this
        refine Exists.intro (324 * p + k) (And.intro (And.intro (by omega) (by rw [pk_mul, nI_add])) ?_)
        refine Exists.intro k (And.intro (And.intro hk (And.intro rfl ?_)) ?_)
        · show h 22 0 (324 * p + k) = nI 0 ∨ h 22 0 (324 * p + k) = nI 1
          rw [ev]
          exact b01 _
        · refine jv_to (V := V) (ih (upd f k (h 22 0 (324 * p + k))) (fun j hj => ?_)) (by rw [nI_add]) rfl (by rw [jx_st_same, jx_st_st]; rfl)
          by_cases hjk : j = k
          · subst hjk; rw [upd_same]; exact ev
          · rw [upd_ne _ _ hjk]; exact hf j (by omega))
    have z := e9
    rw [hp9, hp9, Bool.and_eq_true, Bool.and_eq_true, Bool.and_eq_true, decide_eq_true_eq, decide_eq_true_eq, decide_eq_true_eq, decide_eq_true_eq] at z
    refine rule (Nat.beq 41) 60 0 _ _ _ ?_
    refine br_c (fun q1 => absurd q1 z.1.1) (fun q1 => ?_)
    refine br_c (fun q2 => absurd (show nI p < h 20 0 3 by rw [hP]; exact z.1.2) (Int32.not_lt.mpr q2)) (fun q2 => ?_)
    refine br_c (fun q3 => absurd q3 z.2.1) (fun q3 => ?_)
    refine br_c (fun q4 => ?_) (fun q4 => absurd (e3.mpr z.2.2) q4)
    refine pk_eq 0 0 (fun _ => ?_) (fun w => absurd rfl w)
    exact jv_to (V := V) (copy 0 (Nat.zero_le _) (h 24 0) (fun j hj => absurd hj (Nat.not_lt_zero _))) rfl rfl (jx_st_id (thr h 0) 24 0).symm
end
section
/-! The reference: print. -/
theorem dta_lt {dc : Nat → Nat} {len n pg k : Nat} (hl : len ≤ 80) (hdc : ∀ i, i < 80 → dc i < 256) (hn : n ≤ 4) (hpg : pg ≤ n + 1) : dta dc len n pg k < 16 := by
  unfold dta
  split
  · omega
  split
  · omega
  split
  · omega
  split
  · omega
  exact pv_lt hl hdc
theorem bD_4 (D : Nat → Nat → Bool) (bl s a b : Nat) : (if a = bX bl + 1 ∧ b = bY bl + 1 then s.testBit 3 else if a = bX bl ∧ b = bY bl + 1 then s.testBit 2 else if a = bX bl + 1 ∧ b = bY bl then s.testBit 1 else if a = bX bl ∧ b = bY bl then s.testBit 0 else D a b) = bD D bl s a b := by
  unfold bD
  by_cases c3 : a = bX bl + 1 ∧ b = bY bl + 1
  · rw [if_pos c3, if_pos (by omega), show a - bX bl + 2 * (b - bY bl) = 3 by omega]
  rw [if_neg c3]
  by_cases c2 : a = bX bl ∧ b = bY bl + 1
  · rw [if_pos c2, if_pos (by omega), show a - bX bl + 2 * (b - bY bl) = 2 by omega]
  rw [if_neg c2]
  by_cases c1 : a = bX bl + 1 ∧ b = bY bl
  · rw [if_pos c1, if_pos (by omega), show a - bX bl + 2 * (b - bY bl) = 1 by omega]
  rw [if_neg c1]
  by_cases c0 : a = bX bl ∧ b = bY bl
  · rw [if_pos c0, if_pos (by omega), show a - bX bl + 2 * (b - bY bl) = 0 by omega]
  rw [if_neg c0, if_neg (by omega)]
theorem tb_eq {s k : Nat} : (s / 2 ^ k % 2 = 1 → s.testBit k = true) ∧ (¬ s / 2 ^ k % 2 = 1 → s.testBit k = false) := by
  rw [tb_div]
  exact ⟨fun q => decide_eq_true q, fun q => decide_eq_false q⟩
set_option maxHeartbeats 1000000 in
theorem S_M_printPage {pg n len : Nat} {dc : Nat → Nat} {D0 : Nat → Nat → Bool} {h : jxH} (hD0 : PA (h 22 0) pg D0) (hw : AR (h 23 0) 15 16 gf_pw) (hl : h 20 0 1 = nI len) (hl9 : len ≤ 80) (hd : AR (h 21 0) 80 256 dc) (hn : n ≤ 4) (hpg : pg ≤ n + 1) : jx_MW 100 [jR 20 0, jI (nI pg), jI (nI n)] h (fun _ h' => ∃ a f, h' = jx_st (jx_st h 26 0 a) 22 0 f ∧ PF (h 22 0) f pg (pgD (dta dc len n pg) 4)) := by
  refine jx_MW_by [some (jR 20 0), some (jI (nI pg)), some (jI (nI n)), none, none, none, none] (by decide) rfl (Nat.le_of_ble_eq_true rfl) (fun V rule => ?_)
  have h16 : ∀ k, dta dc len n pg k < 16 := fun k => dta_lt hl9 (fun i hi => hd.lt hi) hn hpg
  -- the rows
  have rows := jl_up (P := fun r => ∀ (o4 o5 o6 : Option jxV) (a f : Nat → Int32), PF (h 22 0) f pg (pgD (dta dc len n pg) r) → V 99 [some (jR 20 0), some (jI (nI pg)), some (jI (nI n)), some (jI (nI r)), o4, o5, o6] [] (jx_st (jx_st h 26 0 a) 22 0 f)) 4
    (by
      intro o4 o5 o6 a f hf
      refine rule (fun _ => false) 20 99 _ _ _ ?_
      refine pk_le 4 4 (fun _ => ?_) (fun q => absurd q (Nat.lt_irrefl _))
      exact Exists.intro a (Exists.intro f (And.intro rfl hf)))
    (fun r hr ih => by
      intro o4 o5 o6 a f hf
      have draw := fun (a : Nat → Int32) (ha : AR a 15 16 (wd9 (dta dc len n pg) r)) => jl_up (P := fun i => ∀ (o5 o6 : Option jxV) (f : Nat → Int32), PF (h 22 0) f pg (dr (pgD (dta dc len n pg) r) (wd9 (dta dc len n pg) r) r i) → V 149 [some (jR 20 0), some (jI (nI pg)), some (jI (nI n)), some (jI (nI r)), some (jI (nI i)), o5, o6] [] (jx_st (jx_st h 26 0 a) 22 0 f)) 15
        (by
          intro o5 o6 f hf
          refine rule (Nat.beq 99) 20 149 _ _ _ ?_
          refine pk_le 15 15 (fun _ => ?_) (fun q => absurd q (Nat.lt_irrefl _))
          exact jv_to (V := V) (ih (some (jI (nI 15))) o5 o6 a f hf) (by rw [nI_add]) rfl rfl)
        (fun i hi ih2 => by
          intro o5 o6 f hf
          obtain ⟨s, hs⟩ : ∃ s, s = wd9 (dta dc len n pg) r i := ⟨_, rfl⟩
          have hsa : a i = nI s := by rw [hs]; exact ha.at hi
          have hs16 : s < 16 := by rw [hs]; exact ha.lt hi
          obtain ⟨X, hX⟩ : ∃ X, X = bX (4 * i + r) := ⟨_, rfl⟩
          obtain ⟨Y, hY⟩ : ∃ Y, Y = bY (4 * i + r) := ⟨_, rfl⟩
          have hX9 : X ≤ 15 := by rw [hX]; unfold bX; omega
          have hY9 : Y ≤ 15 := by rw [hY]; unfold bY; omega
          have hst : ∀ (f : Nat → Int32) (j : Nat) (v : Int32), jx_st (jx_st (jx_st h 26 0 a) 22 0 f) 22 0 (upd (jx_st (jx_st h 26 0 a) 22 0 f 22 0) j v) = jx_st (jx_st h 26 0 a) 22 0 (upd f j v) := fun f j v => by rw [jx_st_same, jx_st_st]
          have d3 : ∀ f, PF (h 22 0) f pg (fun a b => if a = X ∧ b = Y + 1 then s.testBit 2 else if a = X + 1 ∧ b = Y then s.testBit 1 else if a = X ∧ b = Y then s.testBit 0 else dr (pgD (dta dc len n pg) r) (wd9 (dta dc len n pg) r) r i a b) → V 278 [some (jR 20 0), some (jI (nI pg)), some (jI (nI n)), some (jI (nI r)), some (jI (nI i)), some (jI (nI (4 * i + r))), some (jI (nI (324 * pg + 18 * Y + X)))] [] (jx_st (jx_st h 26 0 a) 22 0 f) := by
            intro f hf
            refine rule (Nat.beq 149) 40 278 _ _ _ ?_
            refine Exists.intro i (And.intro (And.intro hi rfl) ?_)
            have nxt : ∀ c : Bool, s.testBit 3 = c → V 149 [some (jR 20 0), some (jI (nI pg)), some (jI (nI n)), some (jI (nI r)), some (jI (nI i + nI 1)), some (jI (nI (4 * i + r))), some (jI (nI (324 * pg + 18 * Y + X)))] [] (jx_st (jx_st h 26 0 a) 22 0 (upd f (324 * pg + 18 * (Y + 1) + (X + 1)) (nI c.toNat))) := fun c hc => jv_to (V := V) (ih2 _ _ _ ((hf.put (x := X + 1) (y := Y + 1) (by omega) (by omega) c).congr (fun a b _ _ => by
              rw [← hc, hX, hY, hs]
              exact bD_4 _ _ _ a b))) (by rw [nI_add]) rfl rfl
            have ei : nI (324 * pg + 18 * Y + X) + nI 19 = nI (324 * pg + 18 * (Y + 1) + (X + 1)) := by rw [nI_add, show 324 * pg + 18 * Y + X + 19 = 324 * pg + 18 * (Y + 1) + (X + 1) by omega]
            refine pk_eq (s / 2 ^ 3 % 2) 1 (fun q => ?_) (fun q => ?_) (by rw [show jx_st (jx_st h 26 0 a) 22 0 f 26 0 i = a i from rfl, hsa, jn_shr (by decide) (by omega), jn_and, Nat.and_one_is_mod]) rfl
            · refine Exists.intro (324 * pg + 18 * (Y + 1) + (X + 1)) (And.intro (And.intro (by omega) (And.intro ei (Or.inr rfl))) ?_)
              rw [hst]
              exact nxt true (tb_eq.1 q)
            · refine Exists.intro (324 * pg + 18 * (Y + 1) + (X + 1)) (And.intro (And.intro (by omega) (And.intro ei (Or.inl rfl))) ?_)
              rw [hst]
              exact nxt false (tb_eq.2 q)
          have d2 : ∀ f, PF (h 22 0) f pg (fun a b => if a = X + 1 ∧ b = Y then s.testBit 1 else if a = X ∧ b = Y then s.testBit 0 else dr (pgD (dta dc len n pg) r) (wd9 (dta dc len n pg) r) r i a b) → V 248 [some (jR 20 0), some (jI (nI pg)), some (jI (nI n)), some (jI (nI r)), some (jI (nI i)), some (jI (nI (4 * i + r))), some (jI (nI (324 * pg + 18 * Y + X)))] [] (jx_st (jx_st h 26 0 a) 22 0 f) := by
            intro f hf
            refine rule (Nat.beq 278) 40 248 _ _ _ ?_
            refine Exists.intro i (And.intro (And.intro hi rfl) ?_)
            have ei : nI (324 * pg + 18 * Y + X) + nI 18 = nI (324 * pg + 18 * (Y + 1) + X) := by rw [nI_add, show 324 * pg + 18 * Y + X + 18 = 324 * pg + 18 * (Y + 1) + X by omega]
            refine pk_eq (s / 2 ^ 2 % 2) 1 (fun q => ?_) (fun q => ?_) (by rw [show jx_st (jx_st h 26 0 a) 22 0 f 26 0 i = a i from rfl, hsa, jn_shr (by decide) (by omega), jn_and, Nat.and_one_is_mod]) rfl
            · refine Exists.intro (324 * pg + 18 * (Y + 1) + X) (And.intro (And.intro (by omega) (And.intro ei (Or.inr rfl))) ?_)
              rw [hst]
              refine d3 _ ((hf.put (x := X) (y := Y + 1) (by omega) (by omega) true).congr (fun a b _ _ => ?_))
              rw [tb_eq.1 q]
            · refine Exists.intro (324 * pg + 18 * (Y + 1) + X) (And.intro (And.intro (by omega) (And.intro ei (Or.inl rfl))) ?_)
              rw [hst]
              refine d3 _ ((hf.put (x := X) (y := Y + 1) (by omega) (by omega) false).congr (fun a b _ _ => ?_))
              rw [tb_eq.2 q]
          have d1 : ∀ f, PF (h 22 0) f pg (fun a b => if a = X ∧ b = Y then s.testBit 0 else dr (pgD (dta dc len n pg) r) (wd9 (dta dc len n pg) r) r i a b) → V 219 [some (jR 20 0), some (jI (nI pg)), some (jI (nI n)), some (jI (nI r)), some (jI (nI i)), some (jI (nI (4 * i + r))), some (jI (nI (324 * pg + 18 * Y + X)))] [] (jx_st (jx_st h 26 0 a) 22 0 f) := by
            intro f hf
            refine rule (Nat.beq 248) 40 219 _ _ _ ?_
            refine Exists.intro i (And.intro (And.intro hi rfl) ?_)
            have ei : nI (324 * pg + 18 * Y + X) + nI 1 = nI (324 * pg + 18 * Y + (X + 1)) := by rw [nI_add, Nat.add_assoc]
            refine pk_eq (s / 2 ^ 1 % 2) 1 (fun q => ?_) (fun q => ?_) (by rw [show jx_st (jx_st h 26 0 a) 22 0 f 26 0 i = a i from rfl, hsa, jn_shr (by decide) (by omega), jn_and, Nat.and_one_is_mod]) rfl
            · refine Exists.intro (324 * pg + 18 * Y + (X + 1)) (And.intro (And.intro (by omega) (And.intro ei (Or.inr rfl))) ?_)
              rw [hst]
              refine d2 _ ((hf.put (x := X + 1) (y := Y) (by omega) (by omega) true).congr (fun a b _ _ => ?_))
              rw [tb_eq.1 q]
            · refine Exists.intro (324 * pg + 18 * Y + (X + 1)) (And.intro (And.intro (by omega) (And.intro ei (Or.inl rfl))) ?_)
              rw [hst]
              refine d2 _ ((hf.put (x := X + 1) (y := Y) (by omega) (by omega) false).congr (fun a b _ _ => ?_))
              rw [tb_eq.2 q]
          have d0 : V 194 [some (jR 20 0), some (jI (nI pg)), some (jI (nI n)), some (jI (nI r)), some (jI (nI i)), some (jI (nI (4 * i + r))), some (jI (nI (324 * pg + 18 * Y + X)))] [] (jx_st (jx_st h 26 0 a) 22 0 f) := by
            refine rule (Nat.beq 219) 40 194 _ _ _ ?_
            refine Exists.intro i (And.intro (And.intro hi rfl) ?_)
            refine pk_eq (s / 2 ^ 0 % 2) 1 (fun q => ?_) (fun q => ?_) (by rw [show jx_st (jx_st h 26 0 a) 22 0 f 26 0 i = a i from rfl, hsa, jn_and, Nat.and_one_is_mod, Nat.pow_zero, Nat.div_one]) rfl
            · refine Exists.intro (324 * pg + 18 * Y + X) (And.intro (And.intro (by omega) (And.intro rfl (Or.inr rfl))) ?_)
              rw [hst]
              refine d1 _ ((hf.put (x := X) (y := Y) (by omega) (by omega) true).congr (fun a b _ _ => ?_))
              rw [tb_eq.1 q]
            · refine Exists.intro (324 * pg + 18 * Y + X) (And.intro (And.intro (by omega) (And.intro rfl (Or.inl rfl))) ?_)
              rw [hst]
              refine d1 _ ((hf.put (x := X) (y := Y) (by omega) (by omega) false).congr (fun a b _ _ => ?_))
              rw [tb_eq.2 q]
          refine rule (Nat.beq 194) 60 149 _ _ _ ?_
          refine pk_le 15 i (fun q => absurd q (by omega)) (fun _ => ?_)
          refine And.intro (by decide) ?_
          refine And.intro (by decide) ?_
          have eb : nI 4 * nI i + nI r = nI (4 * i + r) := by rw [pk_mul, nI_add]
          have ea : nI 324 * nI pg + nI 18 * (nI 1 + nI 2 * ((nI 4 * nI i + nI r) / nI 8)) + nI 1 + nI 2 * (nI 4 * nI i + nI r - (nI 4 * nI i + nI r) / nI 8 * nI 8) = nI (324 * pg + 18 * Y + X) := by
            rw [eb, jn_rem (by omega) (by decide) (by decide), pk_div (by omega) (by decide) (by decide), pk_mul, pk_mul, pk_mul, nI_add, pk_mul, nI_add, nI_add, nI_add]
            congr 1
            rw [hX, hY]
            unfold bX bY
            omega
          exact jv_to (V := V) d0 (by rw [ea, eb]) rfl rfl)
      have fill := jl_up (P := fun i => 4 ≤ i → ∀ (a : Nat → Int32), (∀ k, 4 ≤ k → k < i → a k = nI (dta dc len n pg (11 * r + (k - 4)))) → V 107 [some (jR 20 0), some (jI (nI pg)), some (jI (nI n)), some (jI (nI r)), some (jI (nI i)), o5, o6] [] (jx_st (jx_st h 26 0 a) 22 0 f)) 15
        (by
          intro _ a ha
          refine rule (Nat.beq 149) 20 107 _ _ _ ?_
          refine pk_le 15 15 (fun _ => ?_) (fun q => absurd q (Nat.lt_irrefl _))
          have ha' : ∀ k, 4 ≤ k → k < 15 → jx_st (jx_st h 26 0 a) 22 0 f 26 0 k = nI ((fun k => dta dc len n pg (11 * r + (k - 4))) k) := ha
          refine jx_cal (S_M_check ha' (fun k _ => h16 _)) rfl (fun q h2 hq => ?_)
          obtain ⟨a2, rfl, ga2⟩ := hq
          refine jv_to (V := V) (draw a2 ga2 0 (Nat.zero_le _) o5 o6 f hf) rfl rfl ?_
          rw [jx_sc (show 22 ≠ 26 by decide), jx_st_st])
        (fun i hi ih2 => by
          intro hi4 a ha
          refine rule (Nat.beq 107) 30 107 _ _ _ ?_
          refine pk_le 15 i (fun q => absurd q (by omega)) (fun _ => ?_)
          have ei : nI 11 * nI r + nI i - nI 4 = nI (11 * r + (i - 4)) := by
            rw [pk_mul, nI_add, show nI (11 * r + i) - nI 4 = nI (11 * r + i - 4) from pk_sub (show 4 ≤ 11 * r + i by omega), show 11 * r + i - 4 = 11 * r + (i - 4) by omega]
          have hw' : AR (jx_st (jx_st h 26 0 a) 22 0 f 23 0) 15 16 gf_pw := hw
          have hl' : jx_st (jx_st h 26 0 a) 22 0 f 20 0 1 = nI len := hl
          have hd' : AR (jx_st (jx_st h 26 0 a) 22 0 f 21 0) 80 256 dc := hd
          refine jx_cal (S_M_dataOf (k := 11 * r + (i - 4)) hw' hl' hl9 hd' hn hpg (by omega)) (congrArg (fun z => [jR 20 0, jI (nI pg), jI (nI n), jI z]) ei) (fun q h2 hq => ?_)
          obtain ⟨rfl, rfl⟩ := hq
          refine Exists.intro i (And.intro (And.intro hi rfl) ?_)
          refine jv_to (V := V) (ih2 (by omega) (upd a i (nI (dta dc len n pg (11 * r + (i - 4))))) (fun k h4 hk => ?_)) (by rw [nI_add]) rfl (by rw [jx_sc (show 22 ≠ 26 by decide), jx_st_st]; rfl)
          by_cases hki : k = i
          · subst hki; exact upd_same _ _ _
          · rw [upd_ne _ _ hki]; exact ha k h4 (by omega))
      refine rule (Nat.beq 107) 20 99 _ _ _ ?_
      refine pk_le 4 r (fun q => absurd q (by omega)) (fun _ => ?_)
      exact fill 4 (by decide) (Nat.le_refl _) a (fun k h4 hk => absurd hk (by omega)))
  -- the frame
  have frm1 := jl_up (P := fun y => ∀ (o4 o5 : Option jxV) (f : Nat → Int32) (D : Nat → Nat → Bool), PF (h 22 0) f pg D → (∀ a b, a < 18 → b < y → D a b = if edge a b = true then fr a b else false) → V 2 [some (jR 20 0), some (jI (nI pg)), some (jI (nI n)), some (jI (nI y)), o4, o5, none] [] (jx_st h 22 0 f)) 18
    (by
      intro o4 o5 f D hf hD
      refine rule (Nat.beq 99) 20 2 _ _ _ ?_
      refine pk_le 18 18 (fun _ => ?_) (fun q => absurd q (Nat.lt_irrefl _))
      refine jv_to (V := V) (rows 0 (Nat.zero_le _) o4 o5 none (h 26 0) f (hf.congr (fun a b ha hb => hD a b ha hb))) rfl rfl ?_
      rw [jx_st_id])
    (fun y hy ih => by
      intro o4 o5 f D hf hD
      have inner := jl_up (P := fun x => ∀ (o5 : Option jxV) (f : Nat → Int32) (D : Nat → Nat → Bool), PF (h 22 0) f pg D → (∀ a b, a < 18 → (b < y ∨ (b = y ∧ a < x)) → D a b = if edge a b = true then fr a b else false) → V 11 [some (jR 20 0), some (jI (nI pg)), some (jI (nI n)), some (jI (nI y)), some (jI (nI x)), o5, none] [] (jx_st h 22 0 f)) 18
        (by
          intro o5 f D hf hD
          refine rule (Nat.beq 2) 20 11 _ _ _ ?_
          refine pk_le 18 18 (fun _ => ?_) (fun q => absurd q (Nat.lt_irrefl _))
          exact jv_to (V := V) (ih (some (jI (nI 18))) o5 f D hf (fun a b ha hb => hD a b ha (by omega))) (by rw [nI_add]) rfl rfl)
        (fun x hx ih2 => by
          intro o5 f D hf hD
          have nxt : ∀ c : Bool, (if edge x y = true then fr x y else false) = c → V 11 [some (jR 20 0), some (jI (nI pg)), some (jI (nI n)), some (jI (nI y)), some (jI (nI x + nI 1)), some (jI (nI (edge x y).toNat)), none] [] (jx_st h 22 0 (upd f (324 * pg + 18 * y + x) (nI c.toNat))) := by
            intro c hc
            refine jv_to (V := V) (ih2 (some (jI (nI (edge x y).toNat))) _ _ (hf.put hx hy c) (fun a b ha hb => ?_)) (by rw [nI_add]) rfl rfl
            by_cases hab : a = x ∧ b = y
            · rw [if_pos hab, hab.1, hab.2, hc]
            · rw [if_neg hab]
              exact hD a b ha (by omega)
          have hst : ∀ (j : Nat) (v : Int32), jx_st (jx_st h 22 0 f) 22 0 (upd (jx_st h 22 0 f 22 0) j v) = jx_st h 22 0 (upd f j v) := fun j v => by rw [jx_st_same, jx_st_st]
          have mid : V 47 [some (jR 20 0), some (jI (nI pg)), some (jI (nI n)), some (jI (nI y)), some (jI (nI x)), some (jI (nI (edge x y).toNat)), none] [] (jx_st h 22 0 f) := by
            refine rule (Nat.beq 11) 40 47 _ _ _ ?_
            refine pk_eq (edge x y).toNat 0 (fun q => ?_) (fun q => ?_) rfl rfl (by have := toNat_le (edge x y); omega) (by decide)
            · refine Exists.intro (324 * pg + 18 * y + x) (And.intro (And.intro (by omega) (And.intro (jn_at pg x y) (Or.inl rfl))) ?_)
              rw [hst]
              exact nxt false (by rw [tn0 q]; rfl)
            · refine jx_cal (S_M_frame hx hy) rfl (fun q2 h2 hq => ?_)
              obtain ⟨rfl, rfl⟩ := hq
              refine pk_eq (fr x y).toNat 0 (fun q3 => ?_) (fun q3 => ?_) rfl rfl (by have := toNat_le (fr x y); omega) (by decide)
              · refine Exists.intro (324 * pg + 18 * y + x) (And.intro (And.intro (by omega) (And.intro (jn_at pg x y) (Or.inl rfl))) ?_)
                rw [hst]
                exact nxt false (by rw [if_pos (tn1 q), tn0 q3])
              · refine Exists.intro (324 * pg + 18 * y + x) (And.intro (And.intro (by omega) (And.intro (jn_at pg x y) (Or.inr rfl))) ?_)
                rw [hst]
                exact nxt true (by rw [if_pos (tn1 q), tn1 q3])
          refine rule (Nat.beq 47) 40 11 _ _ _ ?_
          refine pk_le 18 x (fun q => absurd q (by omega)) (fun _ => ?_)
          have leaf : ∀ v, v = (edge x y).toNat → V 47 [some (jR 20 0), some (jI (nI pg)), some (jI (nI n)), some (jI (nI y)), some (jI (nI x)), some (jI (nI v)), none] [] (jx_st h 22 0 f) := fun v hv => jv_to (V := V) mid (by rw [hv]) rfl rfl
          refine pk_eq x 0 (fun q1 => ?_) (fun q1 => ?_)
          · exact leaf 1 (by simp [edge, q1])
          refine pk_eq y 0 (fun q2 => ?_) (fun q2 => ?_)
          · exact leaf 1 (by simp [edge, q2])
          refine pk_eq x 17 (fun q3 => ?_) (fun q3 => ?_)
          · exact leaf 1 (by simp [edge, q3])
          refine pk_eq y 17 (fun q4 => ?_) (fun q4 => ?_)
          · exact leaf 1 (by simp [edge, q4])
          · exact leaf 0 (by simp [edge, q1, q2, q3, q4]))
      refine rule (Nat.beq 11) 20 2 _ _ _ ?_
      refine pk_le 18 y (fun q => absurd q (by omega)) (fun _ => ?_)
      exact inner 0 (Nat.zero_le _) o5 f D hf (fun a b ha hb => hD a b ha (by omega)))
  refine rule (Nat.beq 2) 10 0 _ _ _ ?_
  exact jv_to (V := V) (frm1 0 (Nat.zero_le _) none none (h 22 0) D0 ⟨hD0, fun _ _ => rfl⟩ (fun a b ha hb => absurd hb (Nat.not_lt_zero _))) rfl rfl (jx_st_id h 22 0).symm
theorem S_M_print {len : Nat} {dc : Nat → Nat} {DD : Nat → Nat → Nat → Bool} {h : jxH} (hw : AR (h 23 0) 15 16 gf_pw) (hl : h 20 0 1 = nI len) (hl9 : len ≤ 80) (hd : AR (h 21 0) 80 256 dc) (hD : ∀ p, p < 6 → PA (h 22 0) p (DD p)) : jx_MW 105 [jR 20 0] h
    (fun q h' => (0 < len → q = nI ((len + 19) / 20 + 2) ∧ (∀ k i, k ≠ 20 → k ≠ 22 → k ≠ 26 → h' k i = h k i) ∧ h' 20 0 = upd (upd (h 20 0) 0 (nI 0)) 3 (nI ((len + 19) / 20 + 2)) ∧ (∀ k, 324 * ((len + 19) / 20 + 2) ≤ k → h' 22 0 k = h 22 0 k) ∧ (∀ p, p < (len + 19) / 20 + 2 → PA (h' 22 0) p (pgD (dta dc len ((len + 19) / 20) p) 4))) ∧ (len = 0 → h' = thr h 1)) := by
  refine jx_MW_by [some (jR 20 0), none, none] (by decide) rfl (Nat.le_of_ble_eq_true rfl) (fun V rule => ?_)
  by_cases hl0 : len = 0
  · refine rule (fun _ => false) 40 0 _ _ _ ?_
    refine pk_eq len 0 (fun q => ?_) (fun q => absurd hl0 q) hl rfl
    refine pk_eq 1 0 (fun z => absurd z (by decide)) (fun _ => ?_)
    exact And.intro (fun z => absurd z (by omega)) (fun _ => rfl)
  obtain ⟨n, hne⟩ : ∃ n, n = (len + 19) / 20 := ⟨_, rfl⟩
  have hn1 : 1 ≤ n := by omega
  have hn4 : n ≤ 4 := by omega
  have loop := jl_up (P := fun p => ∀ hh : jxH, (∀ k i, k ≠ 20 → k ≠ 22 → k ≠ 26 → hh k i = h k i) → hh 20 0 = upd (upd (h 20 0) 0 (nI 0)) 3 (nI (n + 2)) → (∀ k, 324 * p ≤ k → hh 22 0 k = h 22 0 k) → (∀ p', p' < p → PA (hh 22 0) p' (pgD (dta dc len n p') 4)) → V 45 [some (jR 20 0), some (jI (nI n)), some (jI (nI p))] [] hh) (n + 2)
    (by
      intro hh h1 h2 h3 h4
      refine rule (fun _ => false) 20 45 _ _ _ ?_
      have e3 : hh 20 0 3 = nI (n + 2) := by rw [h2, upd_same]
      refine pk_le (n + 2) (n + 2) (fun _ => ?_) (fun q => absurd q (Nat.lt_irrefl _)) e3 rfl
      subst hne
      exact And.intro (fun _ => And.intro e3 (And.intro h1 (And.intro h2 (And.intro h3 h4)))) (fun z => absurd z hl0))
    (fun p hp ih => by
      intro hh h1 h2 h3 h4
      refine rule (Nat.beq 45) 40 45 _ _ _ ?_
      have e3 : hh 20 0 3 = nI (n + 2) := by rw [h2, upd_same]
      have e1 : hh 20 0 1 = nI len := by rw [h2, upd_ne _ _ (by decide), upd_ne _ _ (by decide)]; exact hl
      have hdh : AR (hh 21 0) 80 256 dc := by rw [h1 21 0 (by decide) (by decide) (by decide)]; exact hd
      have hwh : AR (hh 23 0) 15 16 gf_pw := by rw [h1 23 0 (by decide) (by decide) (by decide)]; exact hw
      have hDh : PA (hh 22 0) p (DD p) := fun x y hx hy => by rw [h3 _ (by omega)]; exact hD p (by omega) x y hx hy
      refine pk_le (n + 2) p (fun q => absurd q (by omega)) (fun _ => ?_) e3 rfl
      refine jx_cal (S_M_printPage (pg := p) hDh hwh e1 hl9 hdh hn4 (by omega)) rfl (fun r h8 hq => ?_)
      obtain ⟨a, f, rfl, hf⟩ := hq
      refine jv_to (V := V) (ih _ ?_ ?_ ?_ ?_) (by rw [nI_add]) rfl rfl
      · intro k i k20 k22 k26
        rw [jx_st_ne (fun z => by cases z; exact k22 rfl), jx_st_ne (fun z => by cases z; exact k26 rfl)]
        exact h1 k i k20 k22 k26
      · exact h2
      · intro k hk
        rw [jx_st_same, hf.2 k (Or.inr (by omega))]
        exact h3 k (by omega)
      · intro p' hp'
        rw [jx_st_same]
        by_cases hpp : p' = p
        · subst hpp; exact hf.1
        · intro x y hx hy
          rw [hf.2 _ (Or.inl (by omega))]
          exact h4 p' (by omega) x y hx hy)
  refine rule (Nat.beq 45) 40 0 _ _ _ ?_
  refine pk_eq len 0 (fun q => absurd q hl0) (fun _ => ?_) hl rfl
  refine pk_eq 0 0 (fun _ => ?_) (fun z => absurd rfl z)
  refine And.intro (by decide) ?_
  have en : (h 20 0 1 + nI 19) / nI 20 = nI n := by
    rw [hl, nI_add, pk_div (by omega) (by decide) (by decide), ← hne]
  refine jv_to (V := V) (loop 0 (Nat.zero_le _) (jx_st h 20 0 (upd (upd (h 20 0) 0 (nI 0)) 3 (nI (n + 2)))) ?_ rfl (fun k _ => rfl) (fun p' hp' => absurd hp' (Nat.not_lt_zero _))) (congrArg (fun z => [some (jR 20 0), some (jI z), some (jI (nI 0))]) en) rfl ?_
  · intro k i k20 _ _
    exact jx_st_ne (fun z => by cases z; exact k20 rfl)
  · rw [jx_st_same, jx_st_st]
    show jx_st h 20 0 (upd (upd (h 20 0) 0 (nI 0)) 3 ((h 20 0 1 + nI 19) / nI 20 + nI 2)) = _
    rw [en, nI_add]
end
section
/-! The reference: rebuild. -/
abbrev PL (f : Nat → Int32) (pl : Nat → Nat → Nat) : Prop := ∀ p, p < 6 → ∀ m, m < 40 → f (40 * p + m) = nI (pl p m) ∧ pl p m < 16
theorem S_M_symbolAt {k m : Nat} {l x z : Int32} {b : Nat → Bool} {pl : Nat → Nat → Nat} {h : jxH} (hb : BA (h 30 0) 6 b) (hp : PL (h 31 0) pl) (hk : k < 6) (hm : m < 40) : jx_MW 37 [jR 20 0, jI (nI k), jI (nI m), jI l, jI x, jI z] h (fun r h' => r = (if b k = true then nI (pl k m) else if nI k = l then x else z) ∧ h' = h) := by
  refine jx_MW_by [some (jR 20 0), some (jI (nI k)), some (jI (nI m)), some (jI l), some (jI x), some (jI z)] (by decide) rfl (Nat.le_of_ble_eq_true rfl) (fun V rule => ?_)
  refine rule (fun _ => false) 40 0 _ _ _ ?_
  refine Exists.intro k (And.intro (And.intro hk rfl) ?_)
  refine pk_eq (b k).toNat 0 (fun q => ?_) (fun q => ?_) (hb k hk) rfl (by have := toNat_le (b k); omega) (by decide)
  · rw [tn0 q]
    refine br_c (fun q1 => ?_) (fun q1 => ?_)
    · exact And.intro (by rw [if_neg (by decide), if_pos q1]) rfl
    · exact And.intro (by rw [if_neg (by decide), if_neg q1]) rfl
  · refine Exists.intro (40 * k + m) (And.intro (And.intro (by omega) (by rw [pk_mul, nI_add])) ?_)
    exact And.intro (by rw [if_pos (tn1 q), (hp k hk m hm).1]) rfl
def s1 (b : Nat → Bool) (pl : Nat → Nat → Nat) (m x : Nat) : Nat → Nat := fun k => if b k = true then pl k m else x
def s2 (b : Nat → Bool) (pl : Nat → Nat → Nat) (m l x z : Nat) : Nat → Nat := fun k => if b k = true then pl k m else if k = l then x else z
theorem S_M_isRightOne {nd m x : Nat} {l : Int32} {b : Nat → Bool} {pl : Nat → Nat → Nat} {h : jxH} (hw : AR (h 23 0) 15 16 gf_pw) (hn : h 20 0 13 = nI nd) (hn4 : nd ≤ 4) (hb : BA (h 30 0) 6 b) (hp : PL (h 31 0) pl) (hm : m < 40) (hx : x < 16) : jx_MW 71 [jR 20 0, jI (nI m), jI l, jI (nI x)] h (fun r h' => r = nI (decide ((if b nd = true then xs (s1 b pl m x) nd else xs (wt (s1 b pl m x)) nd) = pl (if b nd = true then nd else nd + 1) m)).toNat ∧ h' = h) := by
  refine jx_MW_by [some (jR 20 0), some (jI (nI m)), some (jI l), some (jI (nI x)), none, none, none] (by decide) rfl (Nat.le_of_ble_eq_true rfl) (fun V rule => ?_)
  have hs16 : ∀ k, k < 6 → s1 b pl m x k < 16 := fun k hk => by
    unfold s1
    split
    · exact (hp k hk m hm).2
    · exact hx
  have hbn : h 30 0 nd = nI (b nd).toNat := hb nd (by omega)
  have tnb := toNat_le (b nd)
  have hsum : ∀ k, k ≤ 4 → (if b nd = true then xs (s1 b pl m x) k else xs (wt (s1 b pl m x)) k) < 16 := fun k hk => by
    split
    · exact xs_lt (fun j hj => hs16 j (by omega))
    · exact xs_lt (fun j hj => gf_ml_lt _ _)
  have loop := jl_up (P := fun k => ∀ o6 : Option jxV, V 6 [some (jR 20 0), some (jI (nI m)), some (jI l), some (jI (nI x)), some (jI (nI (if b nd = true then xs (s1 b pl m x) k else xs (wt (s1 b pl m x)) k))), some (jI (nI k)), o6] [] h) nd
    (by
      intro o6
      refine rule (fun _ => false) 60 6 _ _ _ ?_
      refine pk_le nd nd (fun _ => ?_) (fun q => absurd q (Nat.lt_irrefl _)) hn rfl
      refine Exists.intro nd (And.intro (And.intro (by omega) hn) ?_)
      have fin : ∀ q : Nat, q = (if b nd = true then nd else nd + 1) → (if b nd = true then xs (s1 b pl m x) nd else xs (wt (s1 b pl m x)) nd) = pl q m → nI 1 = nI (decide ((if b nd = true then xs (s1 b pl m x) nd else xs (wt (s1 b pl m x)) nd) = pl (if b nd = true then nd else nd + 1) m)).toNat := fun q hq he => by
        rw [← hq, decide_eq_true he]; rfl
      have fin0 : ∀ q : Nat, q = (if b nd = true then nd else nd + 1) → ¬ (if b nd = true then xs (s1 b pl m x) nd else xs (wt (s1 b pl m x)) nd) = pl q m → nI 0 = nI (decide ((if b nd = true then xs (s1 b pl m x) nd else xs (wt (s1 b pl m x)) nd) = pl (if b nd = true then nd else nd + 1) m)).toNat := fun q hq he => by
        rw [← hq, decide_eq_false he]; rfl
      have l1 := hsum nd hn4
      refine pk_eq (b nd).toNat 0 (fun q => ?_) (fun q => ?_) hbn rfl (by omega) (by decide)
      · have e9 : nd + 1 = (if b nd = true then nd else nd + 1) := by rw [tn0 q]; rfl
        refine Exists.intro (40 * (nd + 1) + m) (And.intro (And.intro (by omega) (by rw [hn, nI_add, pk_mul, nI_add])) ?_)
        have l2 := (hp (nd + 1) (by omega) m hm).2
        refine pk_eq (if b nd = true then xs (s1 b pl m x) nd else xs (wt (s1 b pl m x)) nd) (pl (nd + 1) m) (fun z => ?_) (fun z => ?_) rfl (hp (nd + 1) (by omega) m hm).1 (by omega) (by omega)
        · exact And.intro (Or.inr rfl) (And.intro (fin _ e9 z) rfl)
        · exact And.intro (Or.inl rfl) (And.intro (fin0 _ e9 z) rfl)
      · have e9 : nd = (if b nd = true then nd else nd + 1) := by rw [tn1 q]; rfl
        refine Exists.intro (40 * nd + m) (And.intro (And.intro (by omega) (by rw [hn, pk_mul, nI_add])) ?_)
        have l2 := (hp nd (by omega) m hm).2
        refine pk_eq (if b nd = true then xs (s1 b pl m x) nd else xs (wt (s1 b pl m x)) nd) (pl nd m) (fun z => ?_) (fun z => ?_) rfl (hp nd (by omega) m hm).1 (by omega) (by omega)
        · exact And.intro (Or.inr rfl) (And.intro (fin _ e9 z) rfl)
        · exact And.intro (Or.inl rfl) (And.intro (fin0 _ e9 z) rfl))
    (fun k hk ih => by
      intro o6
      refine rule (Nat.beq 6) 60 6 _ _ _ ?_
      refine pk_le nd k (fun q => absurd q (by omega)) (fun _ => ?_) hn rfl
      refine jx_cal (S_M_symbolAt (k := k) hb hp (by omega) hm) rfl (fun r h' hq => ?_)
      obtain ⟨rfl, rfl⟩ := hq
      have es : (if b k = true then nI (pl k m) else if nI k = l then nI x else nI x) = nI (s1 b pl m x k) := by
        unfold s1
        by_cases hbk : b k = true
        · rw [if_pos hbk, if_pos hbk]
        · rw [if_neg hbk, if_neg hbk, ite_self]
      rw [es]
      refine Exists.intro nd (And.intro (And.intro (by omega) hn) ?_)
      refine pk_eq (b nd).toNat 0 (fun q => ?_) (fun q => ?_) hbn rfl (by omega) (by decide)
      · have eb := tn0 q
        refine jx_cal (S_M_of hw (e := k) (by omega)) rfl (fun r h2 hq => ?_)
        obtain ⟨rfl, rfl⟩ := hq
        refine jx_cal (S_M_product (gf_pw_lt k) (hs16 k (by omega))) rfl (fun r h2 hq => ?_)
        obtain ⟨rfl, rfl⟩ := hq
        refine jv_to (V := V) (ih (some (jI (nI (s1 b pl m x k))))) ?_ rfl rfl
        rw [eb, if_neg (by decide), if_neg (by decide), jn_xor, nI_add]
        rfl
      · have eb := tn1 q
        refine jv_to (V := V) (ih (some (jI (nI (s1 b pl m x k))))) ?_ rfl rfl
        rw [eb, if_pos rfl, if_pos rfl, jn_xor, nI_add]
        rfl)
  refine rule (Nat.beq 6) 10 0 _ _ _ ?_
  refine jv_to (V := V) (loop 0 (Nat.zero_le _) none) ?_ rfl rfl
  rw [show (if b nd = true then xs (s1 b pl m x) 0 else xs (wt (s1 b pl m x)) 0) = 0 by split <;> rfl]
theorem S_M_isRight {nd m l x z : Nat} {b : Nat → Bool} {pl : Nat → Nat → Nat} {h : jxH} (hw : AR (h 23 0) 15 16 gf_pw) (hn : h 20 0 13 = nI nd) (hn4 : nd ≤ 4) (hb : BA (h 30 0) 6 b) (hp : PL (h 31 0) pl) (hm : m < 40) (hl : l < 6) (hx : x < 16) (hz : z < 16) (b0 : b nd = true) (b1 : b (nd + 1) = true) : jx_MW 70 [jR 20 0, jI (nI m), jI (nI l), jI (nI x), jI (nI z)] h (fun r h' => r = nI (decide (xs (s2 b pl m l x z) nd = pl nd m) && decide (xs (wt (s2 b pl m l x z)) nd = pl (nd + 1) m)).toNat ∧ h' = h) := by
  refine jx_MW_by [some (jR 20 0), some (jI (nI m)), some (jI (nI l)), some (jI (nI x)), some (jI (nI z)), none, none, none, none] (by decide) rfl (Nat.le_of_ble_eq_true rfl) (fun V rule => ?_)
  have hs16 : ∀ k, k < 6 → s2 b pl m l x z k < 16 := fun k hk => by
    unfold s2
    split
    · exact (hp k hk m hm).2
    · split
      · exact hx
      · exact hz
  have hb0 : h 30 0 nd = nI 1 := by rw [hb nd (by omega), b0]; rfl
  have hb1 : h 30 0 (nd + 1) = nI 1 := by rw [hb (nd + 1) (by omega), b1]; rfl
  have p0 := hp nd (by omega) m hm
  have p1 := hp (nd + 1) (by omega) m hm
  have x0 : xs (s2 b pl m l x z) nd < 16 := xs_lt (fun j hj => hs16 j (by omega))
  have x1 : xs (wt (s2 b pl m l x z)) nd < 16 := xs_lt (fun j hj => gf_ml_lt _ _)
  have loop := jl_up (P := fun k => ∀ o8 : Option jxV, V 9 [some (jR 20 0), some (jI (nI m)), some (jI (nI l)), some (jI (nI x)), some (jI (nI z)), some (jI (nI (xs (s2 b pl m l x z) k))), some (jI (nI (xs (wt (s2 b pl m l x z)) k))), some (jI (nI k)), o8] [] h) nd
    (by
      intro o8
      refine rule (fun _ => false) 80 9 _ _ _ ?_
      refine pk_le nd nd (fun _ => ?_) (fun q => absurd q (Nat.lt_irrefl _)) hn rfl
      refine Exists.intro nd (And.intro (And.intro (by omega) hn) ?_)
      refine pk_eq 1 0 (fun q => absurd q (by decide)) (fun _ => ?_) hb0 rfl
      refine Exists.intro (40 * nd + m) (And.intro (And.intro (by omega) (by rw [hn, pk_mul, nI_add])) ?_)
      refine pk_eq (xs (s2 b pl m l x z) nd) (pl nd m) (fun q => ?_) (fun q => ?_) rfl p0.1 (by omega) (by omega)
      · refine pk_eq 1 0 (fun q => absurd q (by decide)) (fun _ => ?_)
        refine Exists.intro (nd + 1) (And.intro (And.intro (by omega) (by rw [hn, nI_add])) ?_)
        refine pk_eq 1 0 (fun q => absurd q (by decide)) (fun _ => ?_) hb1 rfl
        refine Exists.intro (40 * (nd + 1) + m) (And.intro (And.intro (by omega) (by rw [hn, nI_add, pk_mul, nI_add])) ?_)
        refine pk_eq (xs (wt (s2 b pl m l x z)) nd) (pl (nd + 1) m) (fun q2 => ?_) (fun q2 => ?_) rfl p1.1 (by omega) (by omega)
        · exact And.intro (Or.inr rfl) (And.intro (by rw [decide_eq_true q, decide_eq_true q2]; rfl) rfl)
        · exact And.intro (Or.inl rfl) (And.intro (by rw [decide_eq_true q, decide_eq_false q2]; rfl) rfl)
      · refine pk_eq 0 0 (fun _ => ?_) (fun q => absurd rfl q)
        exact And.intro (Or.inl rfl) (And.intro (by rw [decide_eq_false q]; rfl) rfl))
    (fun k hk ih => by
      intro o8
      refine rule (Nat.beq 9) 60 9 _ _ _ ?_
      refine pk_le nd k (fun q => absurd q (by omega)) (fun _ => ?_) hn rfl
      refine jx_cal (S_M_symbolAt (k := k) hb hp (by omega) hm) rfl (fun r h' hq => ?_)
      obtain ⟨rfl, rfl⟩ := hq
      have es : (if b k = true then nI (pl k m) else if nI k = nI l then nI x else nI z) = nI (s2 b pl m l x z k) := by
        unfold s2
        by_cases hbk : b k = true
        · rw [if_pos hbk, if_pos hbk]
        · rw [if_neg hbk, if_neg hbk]
          by_cases hkl : k = l
          · rw [if_pos hkl, hkl, if_pos rfl]
          · rw [if_neg hkl, if_neg (fun z => hkl (jn_inj (by omega) (by omega) z))]
      rw [es]
      refine jx_cal (S_M_of hw (e := k) (by omega)) rfl (fun r h2 hq => ?_)
      obtain ⟨rfl, rfl⟩ := hq
      refine jx_cal (S_M_product (gf_pw_lt k) (hs16 k (by omega))) rfl (fun r h2 hq => ?_)
      obtain ⟨rfl, rfl⟩ := hq
      refine jv_to (V := V) (ih (some (jI (nI (s2 b pl m l x z k))))) ?_ rfl rfl
      rw [jn_xor, jn_xor, nI_add]
      rfl)
  refine rule (Nat.beq 9) 20 0 _ _ _ ?_
  exact loop 0 (Nat.zero_le _) none
-- the lost symbols are unique
theorem xs_put {s t : Nat → Nat} {l d : Nat} : ∀ {n : Nat}, (∀ k, k < n → k ≠ l → t k = s k) → l < n → t l = s l ^^^ d → xs t n = xs s n ^^^ d
  | 0, _, h, _ => absurd h (Nat.not_lt_zero _)
  | n + 1, h1, h2, h3 => by
    show xs t n ^^^ t n = (xs s n ^^^ s n) ^^^ d
    by_cases hl : l = n
    · subst hl
      rw [h3, xs_congr (fun k hk => h1 k (by omega) (by omega)), Nat.xor_assoc]
    · rw [xs_put (fun k hk => h1 k (by omega)) (by omega) h3, h1 n (by omega) (Ne.symm hl), Nat.xor_assoc, Nat.xor_comm d, ← Nat.xor_assoc]
theorem xor_mv {a b c : Nat} : a ^^^ b = c ↔ b = c ^^^ a := by
  constructor
  · rintro rfl
    rw [Nat.xor_comm a b, Nat.xor_assoc, Nat.xor_self, Nat.xor_zero]
  · rintro rfl
    rw [Nat.xor_comm c a, ← Nat.xor_assoc, Nat.xor_self, Nat.zero_xor]
theorem gf_ml_0 (a : Nat) : gf_ml a 0 = 0 := by
  unfold gf_ml
  split <;> rfl
def gf_tw (a c p w : Nat) : Bool := (List.range 16).all (fun z => decide (gf_ml (gf_pw a) (p ^^^ z) ^^^ gf_ml (gf_pw c) z = w) == decide (z = gf_s2 p w (gf_pw a) (gf_pw c)))
theorem gf_tw_ok : (List.range 4).all (fun a => (List.range 4).all (fun c => Nat.beq a c || (List.range 16).all (fun p => (List.range 16).all (fun w => gf_tw a c p w)))) = true := by decide +kernel
theorem gf_two {a c p w z : Nat} (ha : a < 4) (hc : c < 4) (hac : a ≠ c) (hp : p < 16) (hw : w < 16) (hz : z < 16) : gf_ml (gf_pw a) (p ^^^ z) ^^^ gf_ml (gf_pw c) z = w ↔ z = gf_s2 p w (gf_pw a) (gf_pw c) := by
  have h1 := List.all_eq_true.mp gf_tw_ok a (List.mem_range.mpr ha)
  have h2 := List.all_eq_true.mp h1 c (List.mem_range.mpr hc)
  rw [Bool.or_eq_true] at h2
  rcases h2 with h2 | h2
  · exact absurd (Nat.eq_of_beq_eq_true h2) hac
  · have h3 := List.all_eq_true.mp h2 p (List.mem_range.mpr hp)
    have h4 := List.all_eq_true.mp h3 w (List.mem_range.mpr hw)
    have h5 := List.all_eq_true.mp h4 z (List.mem_range.mpr hz)
    exact decide_eq_decide.mp (eq_of_beq h5)
end
section
/-! The reference: rebuild, put together. -/
theorem sm_hd (f : Nat → Nat) (a : Nat) : ∀ n, sm f a (n + 1) = f a + sm f (a + 1) n
  | 0 => by show 0 + f (a + 0) = f a + 0; rw [Nat.zero_add, Nat.add_zero, Nat.add_zero]
  | n + 1 => by
    show sm f a (n + 1) + f (a + (n + 1)) = f a + (sm f (a + 1) n + f (a + 1 + n))
    rw [sm_hd f a n, show a + (n + 1) = a + 1 + n by omega, Nat.add_assoc]
def lsI (b : Nat → Bool) (nd j : Nat) (lo : Int32) (many : Nat) : Prop := many + sm (fun k => (b k).toNat) (nd - j) j = j ∧
  ((many = 0 ∧ ∀ k, nd - j ≤ k → k < nd → b k = true) ∨
   (many = 1 ∧ ∃ l, nd - j ≤ l ∧ l < nd ∧ lo = nI l ∧ b l = false ∧ ∀ k, nd - j ≤ k → k < nd → k ≠ l → b k = true) ∨
   (many = 2 ∧ ∃ l c, nd - j ≤ l ∧ l < c ∧ c < nd ∧ lo = nI l ∧ b l = false ∧ b c = false ∧ ∀ k, nd - j ≤ k → k < nd → k ≠ l → k ≠ c → b k = true) ∨ 3 ≤ many)
theorem lsI_t {b : Nat → Bool} {nd j : Nat} {lo : Int32} {many : Nat} (h : lsI b nd j lo many) (hj : j < nd) (hb : b (nd - (j + 1)) = true) : lsI b nd (j + 1) lo many := by
  obtain ⟨h1, h2⟩ := h
  have e : nd - (j + 1) + 1 = nd - j := by omega
  refine ⟨by rw [sm_hd, e, hb]; show many + (1 + _) = _; omega, ?_⟩
  have key : ∀ k, nd - (j + 1) ≤ k → k < nd → k = nd - (j + 1) ∨ nd - j ≤ k := fun k _ _ => by omega
  rcases h2 with ⟨a1, a2⟩ | ⟨a1, l, a2, a3, a4, a5, a6⟩ | ⟨a1, l, c, a2, a3, a4, a5, a6, a7, a8⟩ | a1
  · exact Or.inl ⟨a1, fun k k1 k2 => by
      rcases key k k1 k2 with rfl | z
      · exact hb
      · exact a2 k z k2⟩
  · exact Or.inr (Or.inl ⟨a1, l, by omega, a3, a4, a5, fun k k1 k2 k3 => by
      rcases key k k1 k2 with rfl | z
      · exact hb
      · exact a6 k z k2 k3⟩)
  · exact Or.inr (Or.inr (Or.inl ⟨a1, l, c, by omega, a3, a4, a5, a6, a7, fun k k1 k2 k3 k4 => by
      rcases key k k1 k2 with rfl | z
      · exact hb
      · exact a8 k z k2 k3 k4⟩))
  · exact Or.inr (Or.inr (Or.inr a1))
theorem lsI_f {b : Nat → Bool} {nd j : Nat} {lo : Int32} {many : Nat} (h : lsI b nd j lo many) (hj : j < nd) (hb : b (nd - (j + 1)) = false) : lsI b nd (j + 1) (nI (nd - (j + 1))) (many + 1) := by
  obtain ⟨h1, h2⟩ := h
  have e : nd - (j + 1) + 1 = nd - j := by omega
  refine ⟨by rw [sm_hd, e, hb]; show many + 1 + (0 + _) = _; omega, ?_⟩
  rcases h2 with ⟨a1, a2⟩ | ⟨a1, l, a2, a3, a4, a5, a6⟩ | ⟨a1, l, c, a2, a3, a4, a5, a6, a7, a8⟩ | a1
  · exact Or.inr (Or.inl ⟨by omega, nd - (j + 1), Nat.le_refl _, by omega, rfl, hb, fun k k1 k2 k3 => a2 k (by omega) k2⟩)
  · exact Or.inr (Or.inr (Or.inl ⟨by omega, nd - (j + 1), l, Nat.le_refl _, by omega, a3, rfl, hb, a5, fun k k1 k2 k3 k4 => a6 k (by omega) k2 k4⟩))
  · exact Or.inr (Or.inr (Or.inr (by omega)))
  · exact Or.inr (Or.inr (Or.inr (by omega)))
/-- what the search must bring -/
def SOL (b : Nat → Bool) (pl : Nat → Nat → Nat) (nd m : Nat) (lo : Int32) (x z : Nat) : Prop := ∀ k, k < nd → (if b k = true then nI (pl k m) else if nI k = lo then nI x else nI z) = nI (col b pl nd m k)
theorem nl_0 {b : Nat → Bool} {nd a : Nat} (h : ∀ k, a ≤ k → k < nd → b k = true) : nl b nd a = nd := by
  unfold nl
  rw [fst_none (fun k h1 h2 => by rw [h k h1 (by omega)]; rfl)]
  rfl
theorem nl_1 {b : Nat → Bool} {nd a l : Nat} (ha : a ≤ l) (hl : l < nd) (hb : b l = false) (h : ∀ k, a ≤ k → k < l → b k = true) : nl b nd a = l := by
  unfold nl
  rw [fst_some ha (by omega) (fun k h1 h2 => by rw [h k h1 h2]; rfl) (by rw [hb]; rfl)]
  rfl
theorem fc_lt {b : Nat → Bool} {pl : Nat → Nat → Nat} {m : Nat} (hp : ∀ p, p < 6 → pl p m < 16) {k : Nat} (hk : k < 6) : fc b pl m k < 16 := by
  unfold fc
  split
  · exact hp k hk
  · decide
section RBD
variable {b : Nat → Bool} {pl : Nat → Nat → Nat} {nd m : Nat}
theorem sol_0 (h : ∀ k, k < nd → b k = true) (lo : Int32) : SOL b pl nd m lo 0 0 := by
  intro k hk
  rw [if_pos (h k hk), col, nl_0 (a := 0) (fun k _ hk => h k hk), nl_0 (fun k _ hk => h k hk), rst, if_neg (Nat.lt_irrefl _), if_neg (Nat.lt_irrefl _), fc, if_pos (h k hk)]
def X1 (b : Nat → Bool) (pl : Nat → Nat → Nat) (nd m l : Nat) : Nat := if b nd = true then fc b pl m nd ^^^ xs (fc b pl m) nd else gf_qt (fc b pl m (nd + 1) ^^^ xs (wt (fc b pl m)) nd) (gf_pw l)
theorem X1_lt (hp : ∀ p, p < 6 → pl p m < 16) (hn : nd ≤ 4) (l : Nat) : X1 b pl nd m l < 16 := by
  unfold X1
  split
  · exact gf_xor_lt (fc_lt hp (by omega)) (xs_lt (fun k hk => fc_lt hp (by omega)))
  · exact gf_qt_lt _ _
theorem col_1 {l : Nat} (hl : l < nd) (hb : b l = false) (ho : ∀ k, k < nd → k ≠ l → b k = true) : col b pl nd m = nup (fc b pl m) l (X1 b pl nd m l) := by
  rw [col, nl_1 (a := 0) (Nat.zero_le _) hl hb (fun k _ hk => ho k (by omega) (by omega)), nl_0 (a := l + 1) (fun k h1 h2 => ho k h2 (by omega)), rst, if_neg (Nat.lt_irrefl _), if_pos hl, X1]
  split <;> rfl
theorem sol_1 {l : Nat} (hl : l < nd) (hb : b l = false) (ho : ∀ k, k < nd → k ≠ l → b k = true) : SOL b pl nd m (nI l) (X1 b pl nd m l) 0 := by
  intro k hk
  rw [col_1 hl hb ho]
  by_cases hkl : k = l
  · subst hkl
    rw [hb, if_neg (by decide), if_pos rfl, nup_same]
  · rw [if_pos (ho k hk hkl), nup_ne _ _ hkl, fc, if_pos (ho k hk hkl)]
theorem x1_iff {l x : Nat} (hp : ∀ p, p < 6 → pl p m < 16) (hn : nd ≤ 4) (hl : l < nd) (hb : b l = false) (ho : ∀ k, k < nd → k ≠ l → b k = true) (hs : b nd = true ∨ b (nd + 1) = true) (hx : x < 16) : (if b nd = true then xs (s1 b pl m x) nd else xs (wt (s1 b pl m x)) nd) = pl (if b nd = true then nd else nd + 1) m ↔ x = X1 b pl nd m l := by
  have e0 : fc b pl m l = 0 := by rw [fc, hb]; rfl
  have e1 : s1 b pl m x l = x := by rw [s1, hb]; rfl
  have ek : ∀ k, k < nd → k ≠ l → s1 b pl m x k = fc b pl m k := fun k hk hkl => by rw [s1, fc, if_pos (ho k hk hkl), if_pos (ho k hk hkl)]
  cases hbn : b nd with
  | true =>
    rw [if_pos rfl, if_pos rfl, xs_put (s := fc b pl m) (d := x) ek hl (by rw [e1, e0, Nat.zero_xor]), xor_mv, X1, hbn, if_pos rfl, fc, if_pos hbn]
  | false =>
    have hb1 : b (nd + 1) = true := by
      rcases hs with z | z
      · rw [hbn] at z; cases z
      · exact z
    rw [if_neg (by decide), if_neg (by decide), xs_put (s := wt (fc b pl m)) (d := gf_ml (gf_pw l) x) (fun k hk hkl => by rw [wt, wt, ek k hk hkl]) hl (by rw [wt, wt, e1, e0, gf_ml_0, Nat.zero_xor]), xor_mv, X1, hbn, if_neg (by decide)]
    have hW : fc b pl m (nd + 1) ^^^ xs (wt (fc b pl m)) nd < 16 := gf_xor_lt (fc_lt hp (by omega)) (xs_lt (fun k _ => gf_ml_lt _ _))
    have eW : pl (nd + 1) m = fc b pl m (nd + 1) := by rw [fc, if_pos hb1]
    rw [eW, gf_ml_cm]
    constructor
    · intro z
      exact gf_qt_un _ hW _ (gf_pw_lt l) (gf_pw_0 l) x hx z
    · rintro rfl
      exact gf_qt_ml _ hW _ (gf_pw_lt l) (gf_pw_0 l)
def P2 (b : Nat → Bool) (pl : Nat → Nat → Nat) (nd m : Nat) : Nat := fc b pl m nd ^^^ xs (fc b pl m) nd
def W2 (b : Nat → Bool) (pl : Nat → Nat → Nat) (nd m : Nat) : Nat := fc b pl m (nd + 1) ^^^ xs (wt (fc b pl m)) nd
def Z2 (b : Nat → Bool) (pl : Nat → Nat → Nat) (nd m l c : Nat) : Nat := gf_s2 (P2 b pl nd m) (W2 b pl nd m) (gf_pw l) (gf_pw c)
theorem P2_lt (hp : ∀ p, p < 6 → pl p m < 16) (hn : nd ≤ 4) : P2 b pl nd m < 16 := gf_xor_lt (fc_lt hp (by omega)) (xs_lt (fun k hk => fc_lt hp (by omega)))
theorem W2_lt (hp : ∀ p, p < 6 → pl p m < 16) (hn : nd ≤ 4) : W2 b pl nd m < 16 := gf_xor_lt (fc_lt hp (by omega)) (xs_lt (fun k _ => gf_ml_lt _ _))
theorem Z2_lt (l c : Nat) : Z2 b pl nd m l c < 16 := gf_qt_lt _ _
theorem col_2 {l c : Nat} (hlc : l < c) (hc : c < nd) (hb : b l = false) (hbc : b c = false) (ho : ∀ k, k < nd → k ≠ l → k ≠ c → b k = true) : col b pl nd m = nup (nup (fc b pl m) c (Z2 b pl nd m l c)) l (P2 b pl nd m ^^^ Z2 b pl nd m l c) := by
  rw [col, nl_1 (a := 0) (l := l) (Nat.zero_le _) (by omega) hb (fun k _ hk => ho k (by omega) (by omega) (by omega)), nl_1 (a := l + 1) (l := c) (by omega) hc hbc (fun k h1 h2 => ho k (by omega) (by omega) (by omega)), rst, if_pos hc]
  rfl
theorem sol_2 {l c : Nat} (hlc : l < c) (hc : c < nd) (hn : nd ≤ 4) (hb : b l = false) (hbc : b c = false) (ho : ∀ k, k < nd → k ≠ l → k ≠ c → b k = true) : SOL b pl nd m (nI l) (P2 b pl nd m ^^^ Z2 b pl nd m l c) (Z2 b pl nd m l c) := by
  intro k hk
  rw [col_2 hlc hc hb hbc ho]
  by_cases hkl : k = l
  · subst hkl
    rw [hb, if_neg (by decide), if_pos rfl, nup_same]
  · rw [nup_ne _ _ hkl]
    by_cases hkc : k = c
    · subst hkc
      rw [hbc, if_neg (by decide), if_neg (fun z => hkl (jn_inj (by omega) (by omega) z)), nup_same]
    · rw [if_pos (ho k hk hkl hkc), nup_ne _ _ hkc, fc, if_pos (ho k hk hkl hkc)]
theorem x2_iff {l c x z : Nat} (hp : ∀ p, p < 6 → pl p m < 16) (hn : nd ≤ 4) (hlc : l < c) (hc : c < nd) (hb : b l = false) (hbc : b c = false) (ho : ∀ k, k < nd → k ≠ l → k ≠ c → b k = true) (b0 : b nd = true) (b1 : b (nd + 1) = true) (hz : z < 16) : (xs (s2 b pl m l x z) nd = pl nd m ∧ xs (wt (s2 b pl m l x z)) nd = pl (nd + 1) m) ↔ (z = Z2 b pl nd m l c ∧ x = P2 b pl nd m ^^^ Z2 b pl nd m l c) := by
  have e0 : fc b pl m l = 0 := by rw [fc, hb]; rfl
  have e0c : fc b pl m c = 0 := by rw [fc, hbc]; rfl
  have e1 : s2 b pl m l x z l = x := by rw [s2, hb, if_neg (by decide), if_pos rfl]
  have e1c : s2 b pl m l x z c = z := by rw [s2, hbc, if_neg (by decide), if_neg (by omega)]
  have ek : ∀ k, k < nd → k ≠ l → k ≠ c → s2 b pl m l x z k = fc b pl m k := fun k hk hkl hkc => by rw [s2, fc, if_pos (ho k hk hkl hkc), if_pos (ho k hk hkl hkc)]
  have hx1 : xs (s2 b pl m l x z) nd = (xs (fc b pl m) nd ^^^ x) ^^^ z := by
    rw [xs_put (s := nup (fc b pl m) l x) (l := c) (d := z) (fun k hk hkc => by
      by_cases hkl : k = l
      · subst hkl; rw [nup_same, e1]
      · rw [nup_ne _ _ hkl, ek k hk hkl hkc]) hc (by rw [e1c, nup_ne _ _ (by omega), e0c, Nat.zero_xor])]
    rw [xs_put (s := fc b pl m) (l := l) (d := x) (fun k hk hkl => nup_ne _ _ hkl) (by omega) (by rw [nup_same, e0, Nat.zero_xor])]
  have hx2 : xs (wt (s2 b pl m l x z)) nd = (xs (wt (fc b pl m)) nd ^^^ gf_ml (gf_pw l) x) ^^^ gf_ml (gf_pw c) z := by
    rw [xs_put (s := wt (nup (fc b pl m) l x)) (l := c) (d := gf_ml (gf_pw c) z) (fun k hk hkc => by
      by_cases hkl : k = l
      · subst hkl; rw [wt, wt, nup_same, e1]
      · rw [wt, wt, nup_ne _ _ hkl, ek k hk hkl hkc]) hc (by rw [wt, wt, e1c, nup_ne _ _ (by omega), e0c, gf_ml_0, Nat.zero_xor])]
    rw [xs_put (s := wt (fc b pl m)) (l := l) (d := gf_ml (gf_pw l) x) (fun k hk hkl => by rw [wt, wt, nup_ne _ _ hkl]) (by omega) (by rw [wt, wt, nup_same, e0, gf_ml_0, Nat.zero_xor])]
  have eP : P2 b pl nd m = pl nd m ^^^ xs (fc b pl m) nd := by rw [P2, fc, if_pos b0]
  have eW : W2 b pl nd m = pl (nd + 1) m ^^^ xs (wt (fc b pl m)) nd := by rw [W2, fc, if_pos b1]
  have i1 : (xs (fc b pl m) nd ^^^ x) ^^^ z = pl nd m ↔ x ^^^ z = P2 b pl nd m := by
    rw [Nat.xor_assoc, eP]
    exact xor_mv
  have i2 : (xs (wt (fc b pl m)) nd ^^^ gf_ml (gf_pw l) x) ^^^ gf_ml (gf_pw c) z = pl (nd + 1) m ↔ gf_ml (gf_pw l) x ^^^ gf_ml (gf_pw c) z = W2 b pl nd m := by
    rw [Nat.xor_assoc, eW]
    exact xor_mv
  rw [hx1, hx2, i1, i2, Z2]
  have key := gf_two (a := l) (c := c) (z := z) (by omega) (by omega) (by omega) (P2_lt (b := b) hp hn) (W2_lt (b := b) hp hn) hz
  constructor
  · rintro ⟨q1, q2⟩
    have ex : x = P2 b pl nd m ^^^ z := by rw [← q1]; exact xor_3 _ _
    rw [ex] at q2
    have ez := key.mp q2
    exact ⟨ez, by rw [← ez]; exact ex⟩
  · rintro ⟨q1, q2⟩
    rw [← q1] at q2
    refine ⟨by rw [q2]; exact (xor_3 _ _).symm, ?_⟩
    rw [q2]
    exact key.mpr q1
theorem col_lt (hp : ∀ p, p < 6 → pl p m < 16) (hn : nd ≤ 4) {k : Nat} (hk : k < 6) : col b pl nd m k < 16 := by
  have f16 : ∀ k, k < 6 → fc b pl m k < 16 := fun k hk => fc_lt hp hk
  have x16 : xs (fc b pl m) nd < 16 := xs_lt (fun k hk => f16 k (by omega))
  have n16 : ∀ (s : Nat → Nat) (j v : Nat), (∀ k, k < 6 → s k < 16) → v < 16 → ∀ k, k < 6 → nup s j v k < 16 := fun s j v hs hv k hk => by
    unfold nup
    split
    · exact hv
    · exact hs k hk
  unfold col rst
  split
  · exact n16 _ _ _ (n16 _ _ _ f16 (gf_qt_lt _ _)) (gf_xor_lt (gf_xor_lt (f16 _ (by omega)) x16) (gf_qt_lt _ _)) k hk
  · split
    · split
      · exact n16 _ _ _ f16 (gf_xor_lt (f16 _ (by omega)) x16) k hk
      · exact n16 _ _ _ f16 (gf_qt_lt _ _) k hk
    · exact f16 k hk
end RBD
theorem or_16 : ∀ a, a < 16 → ∀ c, c < 16 → a ||| c * 2 ^ 4 = a + 16 * c := by decide +kernel
set_option maxHeartbeats 1000000 in
theorem S_M_rebuild {kp nd ln : Nat} {b : Nat → Bool} {pl : Nat → Nat → Nat} {h : jxH} (hw : AR (h 23 0) 15 16 gf_pw) (hk : h 20 0 12 = nI kp) (hn : h 20 0 13 = nI nd) (hl : h 20 0 14 = nI ln) (hb : BA (h 30 0) 6 b) (hp : PL (h 31 0) pl) (hk9 : kp < 100) (hn4 : nd ≤ 4) (hl9 : ln ≤ 20 * nd) (hc : 0 < kp → kp = sm (fun k => (b k).toNat) 0 (nd + 2)) : jx_MW 91 [jR 20 0] h
    (fun q h' => ((0 < kp ∧ nd ≤ kp) → q = nI ln ∧ ∃ f, h' = jx_st (jx_st h 20 0 (upd (upd (h 20 0) 0 (nI 0)) 17 (nI ln))) 32 0 f ∧ ∀ i, i < ln → f i = nI (col b pl nd (2 * (i % 20)) (i / 20) + 16 * col b pl nd (2 * (i % 20) + 1) (i / 20))) ∧ (¬ (0 < kp ∧ nd ≤ kp) → h' = thr h 1)) := by
  refine jx_MW_by [some (jR 20 0), none, none, none, none, none, none, none, none] (by decide) rfl (Nat.le_of_ble_eq_true rfl) (fun V rule => ?_)
  by_cases hen : ¬ (0 < kp ∧ nd ≤ kp)
  · refine rule (fun _ => false) 40 0 _ _ _ ?_
    refine pk_eq kp 0 (fun q => ?_) (fun q => ?_) hk rfl
    · refine pk_eq 1 0 (fun z => absurd z (by decide)) (fun _ => ?_)
      exact And.intro (fun z => absurd z hen) (fun _ => rfl)
    · refine pk_le nd kp (fun q1 => absurd ⟨by omega, q1⟩ hen) (fun q1 => ?_) hn hk
      refine pk_eq 1 0 (fun z => absurd z (by decide)) (fun _ => ?_)
      exact And.intro (fun z => absurd z hen) (fun _ => rfl)
  have hen := Classical.not_not.mp hen
  have hc := hc hen.1
  have hp6 : ∀ m, m < 40 → ∀ p, p < 6 → pl p m < 16 := fun m hm p hp9 => (hp p hp9 m hm).2
  obtain ⟨B, hB⟩ : ∃ B, B = jx_st h 20 0 (upd (upd (h 20 0) 0 (nI 0)) 17 (nI ln)) := ⟨_, rfl⟩
  have B13 : ∀ f, jx_st B 32 0 f 20 0 13 = nI nd := fun f => by rw [hB]; exact hn
  have B14 : ∀ f, jx_st B 32 0 f 20 0 14 = nI ln := fun f => by rw [hB]; exact hl
  have Bw : ∀ f, AR (jx_st B 32 0 f 23 0) 15 16 gf_pw := fun f => by rw [hB]; exact hw
  have Bb : ∀ f, BA (jx_st B 32 0 f 30 0) 6 b := fun f => by rw [hB]; exact hb
  have Bp : ∀ f, PL (jx_st B 32 0 f 31 0) pl := fun f => by rw [hB]; exact hp
  have c16 : ∀ m k, m < 40 → k < 6 → col b pl nd m k < 16 := fun m k hm hk => col_lt (hp6 m hm) hn4 hk
  have RBX : ∃ RB : Nat → Nat → (Nat → Int32) → Prop, ∀ m k f, RB m k f ↔ ∀ i, i < ln → ((2 * (i % 20) + 1 < m ∨ (m = 2 * (i % 20) + 1 ∧ i / 20 < k)) → f i = nI (col b pl nd (2 * (i % 20)) (i / 20) + 16 * col b pl nd (2 * (i % 20) + 1) (i / 20))) ∧ (((m = 2 * (i % 20) + 1 ∧ ¬ i / 20 < k) ∨ (m = 2 * (i % 20) ∧ i / 20 < k)) → f i = nI (col b pl nd (2 * (i % 20)) (i / 20))) := ⟨_, fun _ _ _ => Iff.rfl⟩
  obtain ⟨RB, hRB⟩ := RBX
  have loopM := fun (lo : Int32) (many : Nat) (hI : lsI b nd nd lo many) => jl_up (P := fun m => ∀ (o4 o5 o6 o7 o8 : Option jxV) (f : Nat → Int32), RB m 0 f → V 99 [some (jR 20 0), some (jI lo), some (jI (nI many)), some (jI (nI m)), o4, o5, o6, o7, o8] [] (jx_st B 32 0 f)) 40
    (by
      intro o4 o5 o6 o7 o8 f hf
      refine rule (fun _ => false) 20 99 _ _ _ ?_
      refine pk_le 40 40 (fun _ => ?_) (fun q => absurd q (Nat.lt_irrefl _))
      refine And.intro (fun _ => And.intro ?_ (Exists.intro f (And.intro (by rw [hB]) (fun i hi => ((hRB 40 0 f).mp hf i hi).1 (Or.inl (by omega)))))) (fun z => absurd hen z)
      rw [hB]
      rfl)
    (fun m hm ih => by
      intro o4 o5 o6 o7 o8 f hf
      have inner := fun (x z : Nat) (hx : x < 16) (hz : z < 16) (hS : SOL b pl nd m lo x z) => jl_up (P := fun k => ∀ (o7 o8 : Option jxV) (f : Nat → Int32), RB m k f → V 192 [some (jR 20 0), some (jI lo), some (jI (nI many)), some (jI (nI m)), some (jI (nI x)), some (jI (nI z)), some (jI (nI k)), o7, o8] [] (jx_st B 32 0 f)) nd
        (by
          intro o7 o8 f hf
          refine rule (Nat.beq 99) 20 192 _ _ _ ?_
          refine pk_le nd nd (fun _ => ?_) (fun q => absurd q (Nat.lt_irrefl _)) (B13 f) rfl
          refine jv_to (V := V) (ih (some (jI (nI x))) (some (jI (nI z))) (some (jI (nI nd))) o7 o8 f ((hRB _ _ _).mpr (fun i hi => ?_))) (by rw [nI_add]) rfl rfl
          have h9 := (hRB _ _ _).mp hf i hi
          exact ⟨fun q => h9.1 (by omega), fun q => h9.2 (by omega)⟩)
        (fun k hk ih2 => by
          intro o7 o8 f hf
          refine rule (Nat.beq 192) 60 192 _ _ _ ?_
          refine pk_le nd k (fun q => absurd q (by omega)) (fun _ => ?_) (B13 f) rfl
          refine And.intro (by decide) ?_
          have ep : nI 20 * nI k + nI m / nI 2 = nI (20 * k + m / 2) := by rw [pk_mul, pk_div (by omega) (by decide) (by decide), nI_add]
          refine jx_cal (S_M_symbolAt (k := k) (Bb f) (Bp f) (by omega) hm) rfl (fun r h' hq => ?_)
          obtain ⟨rfl, rfl⟩ := hq
          rw [hS k hk]
          have cm := c16 m k hm (by omega)
          have e20 : (20 * k + m / 2) % 20 = m / 2 := by omega
          have e21 : (20 * k + m / 2) / 20 = k := by omega
          refine pk_le ln (20 * k + m / 2) (fun q => ?_) (fun q => ?_) (B14 f) ep
          rotate_left
          · refine And.intro (by decide) ?_
            refine pk_eq (m % 2) 0 (fun q1 => ?_) (fun q1 => ?_) (jn_rem (by omega) (by decide) (by decide)) rfl
            · refine Exists.intro (20 * k + m / 2) (And.intro (And.intro (by omega) ep) ?_)
              refine jv_to (V := V) (ih2 (some (jI (nI (20 * k + m / 2)))) (some (jI (nI (col b pl nd m k)))) (upd f (20 * k + m / 2) (nI (col b pl nd m k))) ((hRB _ _ _).mpr (fun i hi => ?_))) (by rw [ep, nI_add]) rfl (by rw [jx_st_same, jx_st_st])
              have h9 := (hRB _ _ _).mp hf i hi
              by_cases hii : i = 20 * k + m / 2
              · subst hii
                rw [upd_same, e20, e21, show 2 * (m / 2) = m by omega]
                exact ⟨fun z => absurd z (by omega), fun _ => rfl⟩
              · rw [upd_ne _ _ hii]
                exact ⟨fun z => h9.1 (by omega), fun z => h9.2 (by omega)⟩
            · refine Exists.intro (20 * k + m / 2) (And.intro (And.intro (by omega) ep) ?_)
              refine Exists.intro (20 * k + m / 2) (And.intro (And.intro (by omega) ep) ?_)
              have hold : f (20 * k + m / 2) = nI (col b pl nd (2 * (m / 2)) k) := by
                have := ((hRB _ _ _).mp hf (20 * k + m / 2) q).2 (Or.inl ⟨by omega, by omega⟩)
                rwa [e20, e21] at this
              have cm2 := c16 (2 * (m / 2)) k (by omega) (by omega)
              have ev : jx_st B 32 0 f 32 0 (20 * k + m / 2) ||| nI (col b pl nd m k) <<< (nI 4 &&& 31) = nI (col b pl nd (2 * (m / 2)) k + 16 * col b pl nd m k) := by
                rw [jx_st_same, hold, jn_shl (by decide) (by omega), jn_or, or_16 _ cm2 _ cm]
              rw [ev]
              refine jv_to (V := V) (ih2 (some (jI (nI (20 * k + m / 2)))) (some (jI (nI (col b pl nd m k)))) (upd f (20 * k + m / 2) (nI (col b pl nd (2 * (m / 2)) k + 16 * col b pl nd m k))) ((hRB _ _ _).mpr (fun i hi => ?_))) (by rw [ep, nI_add]) rfl (by rw [jx_st_same, jx_st_st])
              have h9 := (hRB _ _ _).mp hf i hi
              by_cases hii : i = 20 * k + m / 2
              · subst hii
                rw [upd_same, e20, e21, show 2 * (m / 2) + 1 = m by omega]
                exact ⟨fun _ => rfl, fun z => absurd z (by omega)⟩
              · rw [upd_ne _ _ hii]
                exact ⟨fun z => h9.1 (by omega), fun z => h9.2 (by omega)⟩
          · refine jv_to (V := V) (ih2 (some (jI (nI (20 * k + m / 2)))) (some (jI (nI (col b pl nd m k)))) f ((hRB _ _ _).mpr (fun i hi => ?_))) (by rw [ep, nI_add]) rfl rfl
            have h9 := (hRB _ _ _).mp hf i hi
            exact ⟨fun z => h9.1 (by omega), fun z => h9.2 (by omega)⟩)
      obtain ⟨hI1, hI2⟩ := hI
      have hc2 : kp = sm (fun k => (b k).toNat) 0 nd + (b nd).toNat + (b (nd + 1)).toNat := by
        rw [hc]
        show sm _ 0 nd + (b (0 + nd)).toNat + (b (0 + (nd + 1))).toNat = _
        rw [Nat.zero_add, Nat.zero_add]
      rw [Nat.sub_self] at hI1 hI2
      have t0 := toNat_le (b nd)
      have t1 := toNat_le (b (nd + 1))
      rcases hI2 with ⟨a1, a2⟩ | ⟨a1, l, a2, a3, a4, a5, a6⟩ | ⟨a1, l, c, a2, a3, a4, a5, a6, a7, a8⟩ | a1
      · subst a1
        refine rule (fun n => Nat.beq 192 n) 30 99 _ _ _ ?_
        refine pk_le 40 m (fun q => absurd q (by omega)) (fun _ => ?_)
        refine pk_eq 0 1 (fun q => absurd q (by decide)) (fun _ => ?_)
        refine pk_eq 0 2 (fun q => absurd q (by decide)) (fun _ => ?_)
        exact inner 0 0 (by decide) (by decide) (sol_0 (fun k hk => a2 k (Nat.zero_le _) hk) lo) 0 (Nat.zero_le _) o7 o8 f hf
      · subst a1 a4
        have hs : b nd = true ∨ b (nd + 1) = true := by
          cases e0 : b nd with
          | true => exact Or.inl rfl
          | false =>
            cases e1 : b (nd + 1) with
            | true => exact Or.inr rfl
            | false =>
              rw [e0, e1] at hc2
              have : kp = sm (fun k => (b k).toNat) 0 nd + 0 + 0 := hc2
              omega
        have ho : ∀ k, k < nd → k ≠ l → b k = true := fun k hk hkl => a6 k (Nat.zero_le _) hk hkl
        have x16 := X1_lt (b := b) (pl := pl) (m := m) (hp6 m hm) hn4 l
        have srch := jl_up (P := fun x => V 111 [some (jR 20 0), some (jI (nI l)), some (jI (nI 1)), some (jI (nI m)), some (jI (nI x)), some (jI (nI 0)), o6, o7, o8] [] (jx_st B 32 0 f)) (X1 b pl nd m l)
          (by
            refine rule (fun n => Nat.beq 192 n) 30 111 _ _ _ ?_
            refine pk_eq 1 1 (fun _ => ?_) (fun q => absurd rfl q)
            refine jx_cal (S_M_isRightOne (Bw f) (B13 f) hn4 (Bb f) (Bp f) hm x16) rfl (fun r h' hq => ?_)
            obtain ⟨rfl, rfl⟩ := hq
            refine pk_eq 1 0 (fun q => absurd q (by decide)) (fun _ => ?_) (by rw [decide_eq_true ((x1_iff (hp6 m hm) hn4 a3 a5 ho hs x16).mpr rfl)]; rfl) rfl
            refine pk_eq 1 2 (fun q => absurd q (by decide)) (fun _ => ?_)
            exact inner _ 0 x16 (by decide) (sol_1 a3 a5 ho) 0 (Nat.zero_le _) o7 o8 f hf)
          (fun x hx ih3 => by
            refine rule (fun n => Nat.beq 111 n) 30 111 _ _ _ ?_
            refine pk_eq 1 1 (fun _ => ?_) (fun q => absurd rfl q)
            refine jx_cal (S_M_isRightOne (Bw f) (B13 f) hn4 (Bb f) (Bp f) hm (show x < 16 by omega)) rfl (fun r h' hq => ?_)
            obtain ⟨rfl, rfl⟩ := hq
            refine pk_eq 0 0 (fun _ => ?_) (fun q => absurd rfl q) (by rw [decide_eq_false (fun z => absurd ((x1_iff (hp6 m hm) hn4 a3 a5 ho hs (show x < 16 by omega)).mp z) (by omega))]; rfl) rfl
            exact jv_to (V := V) ih3 (by rw [nI_add]) rfl rfl)
        refine rule (fun n => Nat.beq 111 n) 30 99 _ _ _ ?_
        refine pk_le 40 m (fun q => absurd q (by omega)) (fun _ => ?_)
        exact srch 0 (Nat.zero_le _)
      · subst a1 a5
        have hs : b nd = true ∧ b (nd + 1) = true := by
          cases e0 : b nd with
          | true =>
            cases e1 : b (nd + 1) with
            | true => exact ⟨rfl, rfl⟩
            | false =>
              rw [e0, e1] at hc2
              have : kp = sm (fun k => (b k).toNat) 0 nd + 1 + 0 := hc2
              omega
          | false =>
            rw [e0] at hc2
            have : kp = sm (fun k => (b k).toNat) 0 nd + 0 + (b (nd + 1)).toNat := hc2
            omega
        have ho : ∀ k, k < nd → k ≠ l → k ≠ c → b k = true := fun k hk hkl hkc => a8 k (Nat.zero_le _) hk hkl hkc
        obtain ⟨Z, hZ⟩ : ∃ Z, Z = Z2 b pl nd m l c := ⟨_, rfl⟩
        obtain ⟨X, hX⟩ : ∃ X, X = P2 b pl nd m ^^^ Z2 b pl nd m l c := ⟨_, rfl⟩
        have z16 : Z < 16 := by rw [hZ]; exact Z2_lt l c
        have x16 : X < 16 := by rw [hX]; exact gf_xor_lt (P2_lt (hp6 m hm) hn4) (Z2_lt l c)
        have hsol := sol_2 (pl := pl) (m := m) a3 a4 hn4 a6 a7 ho
        rw [← hX, ← hZ] at hsol
        have hiff := fun x z hz => x2_iff (pl := pl) (m := m) (x := x) (z := z) (hp6 m hm) hn4 a3 a4 a6 a7 ho hs.1 hs.2 hz
        rw [← hX, ← hZ] at hiff
        have hdec : ∀ x z, z < 16 → (decide (xs (s2 b pl m l x z) nd = pl nd m) && decide (xs (wt (s2 b pl m l x z)) nd = pl (nd + 1) m)) = decide (z = Z ∧ x = X) := fun x z hz => by
          rw [← Bool.decide_and]
          exact decide_eq_decide.mpr (hiff x z hz)
        have srch := jl_up (P := fun n => V 133 [some (jR 20 0), some (jI (nI l)), some (jI (nI 2)), some (jI (nI m)), some (jI (nI (n / 16))), some (jI (nI (n % 16))), o6, o7, o8] [] (jx_st B 32 0 f)) (16 * X + Z)
          (by
            refine rule (fun n => Nat.beq 192 n) 30 133 _ _ _ ?_
            refine pk_eq 2 2 (fun _ => ?_) (fun q => absurd rfl q)
            rw [show (16 * X + Z) / 16 = X by omega, show (16 * X + Z) % 16 = Z by omega]
            refine jx_cal (S_M_isRight (Bw f) (B13 f) hn4 (Bb f) (Bp f) hm (by omega) x16 z16 hs.1 hs.2) rfl (fun r h' hq => ?_)
            obtain ⟨rfl, rfl⟩ := hq
            refine pk_eq 1 0 (fun q => absurd q (by decide)) (fun _ => ?_) (by rw [hdec _ _ z16, decide_eq_true ⟨rfl, rfl⟩]; rfl) rfl
            exact inner X Z x16 z16 hsol 0 (Nat.zero_le _) o7 o8 f hf)
          (fun n hn9 ih3 => by
            refine rule (fun n => Nat.beq 133 n) 40 133 _ _ _ ?_
            refine pk_eq 2 2 (fun _ => ?_) (fun q => absurd rfl q)
            refine jx_cal (S_M_isRight (x := n / 16) (z := n % 16) (Bw f) (B13 f) hn4 (Bb f) (Bp f) hm (by omega) (by omega) (by omega) hs.1 hs.2) rfl (fun r h' hq => ?_)
            obtain ⟨rfl, rfl⟩ := hq
            refine pk_eq 0 0 (fun _ => ?_) (fun q => absurd rfl q) (by rw [hdec _ _ (by omega), decide_eq_false (by omega)]; rfl) rfl
            refine pk_eq (n % 16) 15 (fun q => ?_) (fun q => ?_)
            · refine pk_eq (n % 16) 15 (fun _ => ?_) (fun q9 => absurd q q9)
              exact jv_to (V := V) ih3 (by rw [nI_add, show (n + 1) / 16 = n / 16 + 1 by omega, show (n + 1) % 16 = 0 by omega]) rfl rfl
            · refine pk_eq (n % 16) 15 (fun q9 => absurd q9 q) (fun _ => ?_)
              exact jv_to (V := V) ih3 (by rw [nI_add, show (n + 1) / 16 = n / 16 by omega, show (n + 1) % 16 = n % 16 + 1 by omega]) rfl rfl)
        refine rule (fun n => Nat.beq 133 n) 30 99 _ _ _ ?_
        refine pk_le 40 m (fun q => absurd q (by omega)) (fun _ => ?_)
        refine pk_eq 2 1 (fun q => absurd q (by decide)) (fun _ => ?_)
        exact srch 0 (Nat.zero_le _)
      · exact absurd hen.2 (by omega))
  have loopL := jl_up (P := fun j => ∀ (lo : Int32) (many : Nat), lsI b nd j lo many → V 47 [some (jR 20 0), some (jI lo), some (jI (nI many)), some (jI (nI (nd - j) - nI 1)), none, none, none, none, none] [] (thr h 0)) nd
    (by
      intro lo many hI
      refine rule (Nat.beq 99) 30 47 _ _ _ ?_
      rw [Nat.sub_self]
      refine br_c (fun _ => ?_) (fun q => absurd (by decide) q)
      refine jv_to (V := V) (loopM lo many hI 0 (Nat.zero_le _) none none none none none (h 32 0) ((hRB _ _ _).mpr (fun i hi => ⟨fun z => absurd z (by omega), fun z => absurd z (by omega)⟩))) rfl rfl ?_
      show jx_st (jx_st h 20 0 (upd (h 20 0) 0 (nI 0))) 20 0 (upd (upd (h 20 0) 0 (nI 0)) 17 (h 20 0 14)) = _
      rw [jx_st_st, hB, hl]
      exact (jx_st_id _ 32 0).symm)
    (fun j hj ih => by
      intro lo many hI
      refine rule (Nat.beq 47) 40 47 _ _ _ ?_
      have ek : nI (nd - j) - nI 1 = nI (nd - (j + 1)) := by rw [pk_sub (by omega), show nd - j - 1 = nd - (j + 1) by omega]
      have eN : nI (nd - j) - nI 1 + -nI (0 + 1) = nI (nd - (j + 1)) - nI 1 := by rw [ek]; exact (Int32.sub_eq_add_neg _ _).symm
      refine br_c (fun q => absurd q (by rw [ek]; exact nI_pos (by omega))) (fun _ => ?_)
      have hbk : thr h 0 30 0 (nd - (j + 1)) = nI (b (nd - (j + 1))).toNat := hb _ (by omega)
      have tb := toNat_le (b (nd - (j + 1)))
      refine Exists.intro (nd - (j + 1)) (And.intro (And.intro (by omega) ek) ?_)
      refine pk_eq (b (nd - (j + 1))).toNat 0 (fun q => ?_) (fun q => ?_) hbk rfl (by omega) (by decide)
      · refine Exists.intro (nd - (j + 1)) (And.intro (And.intro (by omega) ek) ?_)
        refine pk_eq (b (nd - (j + 1))).toNat 0 (fun _ => ?_) (fun z => absurd q z) hbk rfl (by omega) (by decide)
        exact jv_to (V := V) (ih _ _ (lsI_f hI hj (tn0 q))) (by rw [eN, ek, nI_add]) rfl rfl
      · refine Exists.intro (nd - (j + 1)) (And.intro (And.intro (by omega) ek) ?_)
        refine pk_eq (b (nd - (j + 1))).toNat 0 (fun z => absurd z q) (fun _ => ?_) hbk rfl (by omega) (by decide)
        exact jv_to (V := V) (ih _ _ (lsI_t hI hj (tn1 q))) (by rw [eN, show nI many + nI 0 = nI many from nI_add _ _]) rfl rfl)
  refine rule (Nat.beq 47) 40 0 _ _ _ ?_
  refine pk_eq kp 0 (fun q => absurd q (by omega)) (fun _ => ?_) hk rfl
  refine pk_le nd kp (fun _ => ?_) (fun q => absurd q (by omega)) hn hk
  refine pk_eq 0 0 (fun _ => ?_) (fun z => absurd rfl z)
  refine jv_to (V := V) (loopL 0 (Nat.zero_le _) (-nI 1) 0 ⟨rfl, Or.inl ⟨rfl, fun k k1 k2 => absurd k2 (by omega)⟩⟩) ?_ rfl rfl
  rw [show jx_st h 20 0 (upd (h 20 0) 0 (nI 0)) 20 0 13 = nI nd from hn]
  rfl
end
section
/-! The class's heap and the reference's, side by side. -/
/-- the abstract state: length, document, pages, dots, kept, needed, length read, which are kept, payloads, rebuilt length -/
abbrev jxS : Type := Nat × (Nat → Nat) × Nat × (Nat → Nat → Nat → Bool) × Nat × Nat × Nat × (Nat → Bool) × (Nat → Nat → Nat) × Nat
def R_doc (h : jxH) (len : Nat) (dc : Nat → Nat) : Prop := h 0 0 1 = nI len ∧ h 20 0 1 = nI len ∧ len ≤ 80 ∧ AR (h 1 0) 80 256 dc ∧ AR (h 21 0) 80 256 dc
def R_dot (h : jxH) (P : Nat) (DD : Nat → Nat → Nat → Bool) : Prop := h 0 0 3 = nI P ∧ h 20 0 3 = nI P ∧ P ≤ 6 ∧ (∀ p, p < 6 → LN (h 4 p) (DD p)) ∧ (∀ p, p < 6 → PA (h 22 0) p (DD p))
def R_err (h : jxH) : Prop := ∀ r, r < 4 → h 13 0 r = h 29 0 r
def R_kept (h : jxH) (kp nd ln : Nat) (b : Nat → Bool) : Prop := h 14 0 2 = nI kp ∧ h 20 0 12 = nI kp ∧ h 14 0 3 = nI nd ∧ h 20 0 13 = nI nd ∧ h 14 0 4 = nI ln ∧ h 20 0 14 = nI ln ∧ BA (h 17 0) 6 b ∧ BA (h 30 0) 6 b
def R_kin (kp nd ln : Nat) (b : Nat → Bool) : Prop := nd ≤ 4 ∧ ln ≤ 20 * nd ∧ (kp = 0 → ∀ k, k < 6 → b k = false) ∧ (0 < kp → kp = sm (fun k => (b k).toNat) 0 (nd + 2))
def R_pay (h : jxH) (pl : Nat → Nat → Nat) : Prop := (∀ p, p < 6 → AR (h 16 p) 40 16 (pl p)) ∧ PL (h 31 0) pl
def R_out (h : jxH) (rl : Nat) : Prop := h 14 0 6 = nI rl ∧ h 20 0 17 = nI rl ∧ rl ≤ 80 ∧ ∀ i, i < rl → h 18 0 i = h 32 0 i
def R_inv (h : jxH) : Prop := AR (h 23 0) 15 16 gf_pw ∧ (∃ s, AR (h 10 0) 6 16 s) ∧ (∃ s, AR (h 7 0) 15 16 s)
def REL (h : jxH) : Prop := ∃ len dc P DD kp nd ln b pl rl, R_doc h len dc ∧ R_dot h P DD ∧ R_err h ∧ R_kept h kp nd ln b ∧ R_kin kp nd ln b ∧ R_pay h pl ∧ R_out h rl ∧ R_inv h
theorem R_kp {kp nd ln : Nat} {b : Nat → Bool} (h : R_kin kp nd ln b) : kp ≤ 6 := by
  obtain ⟨h1, -, h3, h4⟩ := h
  by_cases hk : kp = 0
  · omega
  · have := sm_le1 (f := fun k => (b k).toNat) (fun k => toNat_le (b k)) 0 (nd + 2)
    have := h4 (by omega)
    omega
theorem jx_stk {h : jxH} {k i k' i' : Nat} {f : Nat → Int32} (hn : k' ≠ k) : jx_st h k i f k' i' = h k' i' := by
  unfold jx_st
  rw [if_neg hn]
/-- what a call of the reference owes behind the class's: not thrown, the same answer, the relation -/
def RQ (f9 : Nat → Int32) (r : Int32) : Int32 → jxH → Prop := fun r' h2 => h2 20 0 0 = nI 0 ∧ r' = r ∧ h2 33 0 = f9 ∧ REL h2
/-- the cell 'out' is the law's own -/
theorem REL_33 {h : jxH} (hR : REL h) (f9 : Nat → Int32) : REL (jx_st h 33 0 f9) := by
  obtain ⟨len, dc, P, DD, kp, nd, ln, b, pl, rl, h1, h2, h3, h4, h5, h6, h7, h8⟩ := hR
  exact ⟨len, dc, P, DD, kp, nd, ln, b, pl, rl, h1, h2, h3, h4, h5, h6, h7, h8⟩
/-- and behind a throw -/
def RT (t : Nat) : Int32 → jxH → Prop := fun _ h2 => h2 20 0 0 = nI t ∧ REL h2
theorem thr_0 (h : jxH) (t : Nat) : thr h t 20 0 0 = nI t := rfl
theorem REL_thr {h : jxH} (hR : REL h) (t : Nat) : REL (thr h t) := by
  obtain ⟨len, dc, P, DD, kp, nd, ln, b, pl, rl, h1, h2, h3, h4, h5, h6, h7, h8⟩ := hR
  exact ⟨len, dc, P, DD, kp, nd, ln, b, pl, rl, h1, h2, h3, h4, h5, h6, h7, h8⟩
theorem Q_wipe {h : jxH} (hR : REL h) : jx_MW 41 [jR 20 0] (jx_st h 0 0 (upd (h 0 0) 1 (nI 0))) (RQ (h 33 0) (h 0 0 1)) := by
  obtain ⟨len, dc, P, DD, kp, nd, ln, b, pl, rl, h1, h2, h3, h4, h5, h6, h7, h8⟩ := hR
  refine jx_MW_mono S_M_wipe (fun r h' hq => ?_)
  obtain ⟨rfl, rfl⟩ := hq
  refine ⟨rfl, ?_, rfl, 0, dc, P, DD, kp, nd, ln, b, pl, rl, ⟨rfl, rfl, by omega, h1.2.2.2.1, h1.2.2.2.2⟩, h2, h3, h4, h5, h6, h7, h8⟩
  exact h1.2.1.trans h1.1.symm
theorem Q_missing {h : jxH} (hR : REL h) : ∃ r, jx_MW 47 [jR 0 0] h (fun r' h' => r' = r ∧ h' = h) ∧ jx_MW 31 [jR 20 0] h (RQ (h 33 0) r) := by
  have hR0 := hR
  obtain ⟨len, dc, P, DD, kp, nd, ln, b, pl, rl, h1, h2, h3, h4, h5, h6, h7, h8⟩ := hR
  have hk := R_kp h5
  refine ⟨_, S_V_missing h4.1 (by omega), jx_MW_mono (S_M_missing h4.2.1 (by omega)) (fun r h' hq => ?_)⟩
  obtain ⟨rfl, rfl⟩ := hq
  refine ⟨rfl, ?_, rfl, REL_thr hR0 0⟩
  rw [h4.2.2.1, h4.2.2.2.1]
theorem Q_reset {h : jxH} (hR : REL h) : jx_MW 49 [jR 0 0] h (fun r h1 => jx_MW 36 [jR 20 0] h1 (RQ (h1 33 0) r)) := by
  obtain ⟨len, dc, P, DD, kp, nd, ln, b, pl, rl, h1, h2, h3, h4, h5, h6, h7, h8⟩ := hR
  refine jx_MW_mono S_V_reset (fun r h' hq => ?_)
  obtain ⟨rfl, f, rfl, hf⟩ := hq
  refine jx_MW_mono S_M_reset (fun r h' hq => ?_)
  obtain ⟨rfl, g, rfl, hg⟩ := hq
  refine ⟨rfl, ?_, rfl, len, dc, P, DD, 0, nd, ln, (fun _ => false), pl, 0, h1, h2, h3, ⟨rfl, rfl, h4.2.2.1, h4.2.2.2.1, h4.2.2.2.2.1, h4.2.2.2.2.2.1, hf, hg⟩, ⟨h5.1, h5.2.1, fun _ _ _ => rfl, fun z => absurd z (Nat.lt_irrefl _)⟩, h6, ⟨rfl, rfl, by omega, fun i hi => absurd hi (Nat.not_lt_zero _)⟩, h8⟩
  exact h4.2.1.trans h4.1.symm
-- the calls that may throw: what comes behind the class's answer, and behind its throw
def jx_BM (κ : Nat) (as : List jxV) (h : jxH) (E' : Int32 → jxH → Prop) (TH' : Nat → jxH → Prop) : Prop := ∃ (E : Int32 → jxH → Prop) (TH : Nat → jxH → Prop), jx_BD κ as h E TH ∧ (∀ r h1, E r h1 → E' r h1) ∧ (∀ x h1, TH x h1 → TH' x h1)
theorem Q_load {b : Int32} {h : jxH} (hR : REL h) : jx_BM 2 [jR 0 0, jI b] h (fun r h1 => ∀ f9, jx_MW 30 [jR 20 0, jI b] (jx_st h1 33 0 f9) (RQ f9 r)) (fun x h1 => h1 = h ∧ ((x = 0 ∧ jx_MW 30 [jR 20 0, jI b] h (RT 1)) ∨ (x = 1 ∧ jx_MW 30 [jR 20 0, jI b] h (RT 2)))) := by
  have hR0 := hR
  obtain ⟨len, dc, P, DD, kp, nd, ln, bb, pl, rl, h1, h2, h3, h4, h5, h6, h7, h8⟩ := hR
  refine ⟨_, _, B_V_load h1.1 h1.2.2.1, fun r g hq => ?_, fun x g hq => ?_⟩
  · obtain ⟨q1, q2, rfl, rfl⟩ := hq
    intro f9
    have hl' : jx_st (jx_st (jx_st h 1 0 (upd (h 1 0) len b)) 0 0 (upd (h 0 0) 1 (nI (len + 1)))) 33 0 f9 20 0 1 = nI len := h1.2.1
    refine jx_MW_mono (S_M_load hl' h1.2.2.1) (fun r' g' hq => ?_)
    obtain ⟨rfl, rfl⟩ := hq.2.2 q1 q2
    obtain ⟨j, hj, rfl⟩ : ∃ j, j ≤ 255 ∧ b = nI j := nI_of2 (nI_toInt (by decide)) q1.1 q1.2
    refine ⟨rfl, rfl, rfl, len + 1, nup dc len j, P, DD, kp, nd, ln, bb, pl, rl, ⟨rfl, rfl, by omega, h1.2.2.2.1.put (by omega), h1.2.2.2.2.put (by omega)⟩, h2, h3, h4, h5, h6, h7, h8⟩
  · obtain ⟨rfl, hq⟩ := hq
    refine ⟨rfl, ?_⟩
    rcases hq with ⟨rfl, q1⟩ | ⟨rfl, q1, q2⟩
    · refine Or.inl ⟨rfl, jx_MW_mono (S_M_load h1.2.1 h1.2.2.1) (fun r' g' hq => ?_)⟩
      obtain rfl := hq.1 q1
      exact ⟨rfl, REL_thr hR0 1⟩
    · refine Or.inr ⟨rfl, jx_MW_mono (S_M_load h1.2.1 h1.2.2.1) (fun r' g' hq => ?_)⟩
      obtain rfl := hq.2.1 q1 q2
      exact ⟨rfl, REL_thr hR0 2⟩
theorem Q_errors {r : Int32} {h : jxH} (hR : REL h) : jx_BM 45 [jR 0 0, jI r] h (fun q h1 => ∀ f9, jx_MW 27 [jR 20 0, jI r] (jx_st h1 33 0 f9) (RQ f9 q)) (fun x h1 => h1 = h ∧ x = 0 ∧ jx_MW 27 [jR 20 0, jI r] h (RT 1)) := by
  have hR0 := hR
  obtain ⟨len, dc, P, DD, kp, nd, ln, bb, pl, rl, h1, h2, h3, h4, h5, h6, h7, h8⟩ := hR
  refine ⟨_, _, B_V_errors, fun q g hq => ?_, fun x g hq => ?_⟩
  · obtain ⟨q1, q2, rfl⟩ := hq
    intro f9
    refine jx_MW_mono S_M_errors (fun r' g' hq => ?_)
    obtain ⟨q3, rfl⟩ := hq.1 q1
    obtain ⟨j, hj, rfl⟩ := hp9_t (by decide) q1
    refine ⟨rfl, ?_, rfl, REL_thr (REL_33 hR0 f9) 0⟩
    rw [q2 j hj rfl, q3 j hj rfl]
    exact (h3 j hj).symm
  · obtain ⟨rfl, rfl, q1⟩ := hq
    refine ⟨rfl, rfl, jx_MW_mono S_M_errors (fun r' g' hq => ?_)⟩
    obtain rfl := hq.2 q1
    exact ⟨rfl, REL_thr hR0 1⟩
theorem Q_out {i : Int32} {h : jxH} (hR : REL h) : jx_BM 48 [jR 0 0, jI i] h (fun q h1 => ∀ f9, jx_MW 34 [jR 20 0, jI i] (jx_st h1 33 0 f9) (RQ f9 q)) (fun x h1 => h1 = h ∧ x = 2 ∧ jx_MW 34 [jR 20 0, jI i] h (RT 1)) := by
  have hR0 := hR
  obtain ⟨len, dc, P, DD, kp, nd, ln, bb, pl, rl, h1, h2, h3, h4, h5, h6, h7, h8⟩ := hR
  refine ⟨_, _, B_V_out h7.1 h7.2.2.1, fun q g hq => ?_, fun x g hq => ?_⟩
  · obtain ⟨q1, q2, rfl⟩ := hq
    intro f9
    refine jx_MW_mono (S_M_out (h := jx_st g 33 0 f9) h7.2.1 h7.2.2.1) (fun r' g' hq => ?_)
    obtain ⟨q3, rfl⟩ := hq.1 q1
    obtain ⟨j, hj, rfl⟩ := hp9_t (by have := h7.2.2.1; omega) q1
    refine ⟨rfl, ?_, rfl, REL_thr (REL_33 hR0 f9) 0⟩
    rw [q2 j hj rfl, q3 j hj rfl]
    exact (h7.2.2.2 j hj).symm
  · obtain ⟨rfl, rfl, q1⟩ := hq
    refine ⟨rfl, rfl, jx_MW_mono (S_M_out h7.2.1 h7.2.2.1) (fun r' g' hq => ?_)⟩
    obtain rfl := hq.2 q1
    exact ⟨rfl, REL_thr hR0 1⟩
theorem Q_dot {pg x y : Int32} {h : jxH} (hR : REL h) : jx_BM 77 [jR 0 0, jI pg, jI x, jI y] h (fun q h1 => ∀ f9, jx_MW 66 [jR 20 0, jI pg, jI x, jI y] (jx_st h1 33 0 f9) (RQ f9 q)) (fun z h1 => h1 = h ∧ z = 0 ∧ jx_MW 66 [jR 20 0, jI pg, jI x, jI y] h (RT 1)) := by
  have hR0 := hR
  obtain ⟨len, dc, P, DD, kp, nd, ln, bb, pl, rl, h1, h2, h3, h4, h5, h6, h7, h8⟩ := hR
  refine ⟨_, _, B_V_dot h2.1 h2.2.2.1 h2.2.2.2.1, fun q g hq => ?_, fun z g hq => ?_⟩
  · obtain ⟨q1, q2, rfl⟩ := hq
    intro f9
    refine jx_MW_mono (S_M_dot (h := jx_st g 33 0 f9) h2.2.1 h2.2.2.1 h2.2.2.2.2) (fun r' g' hq => ?_)
    obtain ⟨q3, rfl⟩ := hq.1 q1
    have e2 := q1
    simp only [hd9, Bool.and_eq_true] at e2
    obtain ⟨p, hp, rfl⟩ := hp9_t (by have := h2.2.2.1; omega) e2.1
    obtain ⟨i, hi, rfl⟩ := hp9_t (by decide) e2.2.1
    obtain ⟨j, hj, rfl⟩ := hp9_t (by decide) e2.2.2
    refine ⟨rfl, ?_, rfl, REL_thr (REL_33 hR0 f9) 0⟩
    rw [q2 p i j hp hi hj rfl rfl rfl, q3 p i j hp hi hj rfl rfl rfl]
  · obtain ⟨rfl, rfl, q1⟩ := hq
    refine ⟨rfl, rfl, jx_MW_mono (S_M_dot h2.2.1 h2.2.2.1 h2.2.2.2.2) (fun r' g' hq => ?_)⟩
    obtain rfl := hq.2 q1
    exact ⟨rfl, REL_thr hR0 1⟩
/-- page p replaced -/
def dup (DD : Nat → Nat → Nat → Bool) (p : Nat) (D : Nat → Nat → Bool) : Nat → Nat → Nat → Bool := fun p' => if p' = p then D else DD p'
theorem dup_L {h : jxH} {DD : Nat → Nat → Nat → Bool} (hL : ∀ p, p < 6 → LN (h 4 p) (DD p)) {p : Nat} {f : Nat → Int32} {D : Nat → Nat → Bool} (hf : LN f D) : ∀ p', p' < 6 → LN (jx_st h 4 p f 4 p') (dup DD p D p') := by
  intro p' hp'
  unfold dup
  by_cases hpp : p' = p
  · subst hpp
    rw [jx_st_same, if_pos rfl]
    exact hf
  · rw [jx_st_ne (fun z => by cases z; exact hpp rfl), if_neg hpp]
    exact hL p' hp'
theorem dup_P {g : Nat → Int32} {DD : Nat → Nat → Nat → Bool} (hD : ∀ p, p < 6 → PA g p (DD p)) {p : Nat} {f : Nat → Int32} {D : Nat → Nat → Bool} (hf : PF g f p D) : ∀ p', p' < 6 → PA f p' (dup DD p D p') := by
  intro p' hp'
  unfold dup
  by_cases hpp : p' = p
  · subst hpp
    rw [if_pos rfl]
    exact hf.1
  · rw [if_neg hpp]
    intro x y hx hy
    rw [hf.2 _ (by omega)]
    exact hD p' hp' x y hx hy
theorem Q_flip {pg x y : Int32} {h : jxH} (hR : REL h) : jx_BM 78 [jR 0 0, jI pg, jI x, jI y] h (fun _ h1 => jx_MW 68 [jR 20 0, jI pg, jI x, jI y] h1 (RT 0)) (fun z h1 => h1 = h ∧ z = 0 ∧ jx_MW 68 [jR 20 0, jI pg, jI x, jI y] h (RT 1)) := by
  have hR0 := hR
  obtain ⟨len, dc, P, DD, kp, nd, ln, bb, pl, rl, h1, h2, h3, h4, h5, h6, h7, h8⟩ := hR
  refine ⟨_, _, B_V_flip h2.1 h2.2.2.1 h2.2.2.2.1, fun q g hq => ?_, fun z g hq => ?_⟩
  · obtain ⟨p, i, j, f, hp, hi, hj, rfl, rfl, rfl, rfl, hf⟩ := hq
    have hP' : jx_st h 4 p f 20 0 3 = nI P := h2.2.1
    have hD' : ∀ q, q < 6 → PA (jx_st h 4 p f 22 0) q (DD q) := h2.2.2.2.2
    refine jx_MW_mono (S_M_flip hP' h2.2.2.1 hD') (fun r' g' hq => ?_)
    have hd : hd9 (nI p) (nI i) (nI j) P = true := by
      rw [hd9, hp9_n hp (by have := h2.2.2.1; omega), hp9_n hi (by decide), hp9_n hj (by decide)]
      rfl
    obtain ⟨f2, rfl, hf2⟩ := hq.1 hd p i j hp hi hj rfl rfl rfl
    exact ⟨rfl, len, dc, P, dup DD p (fun a b => if a = i ∧ b = j then !DD p a b else DD p a b), kp, nd, ln, bb, pl, rl, h1, ⟨h2.1, h2.2.1, h2.2.2.1, dup_L h2.2.2.2.1 hf, dup_P h2.2.2.2.2 hf2⟩, h3, h4, h5, h6, h7, h8⟩
  · obtain ⟨rfl, rfl, q1⟩ := hq
    refine ⟨rfl, rfl, jx_MW_mono (S_M_flip h2.2.1 h2.2.2.1 h2.2.2.2.2) (fun r' g' hq => ?_)⟩
    obtain rfl := hq.2 q1
    exact ⟨rfl, REL_thr hR0 1⟩
theorem sz9_n {w : Nat} (h1 : 1 ≤ w) (h2 : w ≤ 18) : sz9 (nI w) = true := by
  simp only [sz9, Bool.and_eq_true, decide_eq_true_eq]
  rw [nI_ltI (by omega) (by decide), nI_ltI (by decide) (by omega)]
  omega
theorem Q_blot {pg x y wi hi : Int32} {c : Bool} {h : jxH} (hR : REL h) : jx_BM 76 [jR 0 0, jI pg, jI x, jI y, jI wi, jI hi, jI (nI c.toNat)] h (fun q h1 => ∀ f9, jx_MW 64 [jR 20 0, jI pg, jI x, jI y, jI wi, jI hi, jI (nI c.toNat)] (jx_st h1 33 0 f9) (RQ f9 q)) (fun z h1 => h1 = h ∧ z = 0 ∧ jx_MW 64 [jR 20 0, jI pg, jI x, jI y, jI wi, jI hi, jI (nI c.toNat)] h (RT 1)) := by
  have hR0 := hR
  obtain ⟨len, dc, P, DD, kp, nd, ln, bb, pl, rl, h1, h2, h3, h4, h5, h6, h7, h8⟩ := hR
  refine ⟨_, _, B_V_blot h2.1 h2.2.2.1 h2.2.2.2.1, fun q g hq => ?_, fun z g hq => ?_⟩
  · obtain ⟨p, i, j, w, v, f, hp, hi, hj, hw1, hw2, hv1, hv2, rfl, rfl, rfl, rfl, rfl, rfl, rfl, hf⟩ := hq
    intro f9
    have hP' : jx_st (jx_st h 4 p f) 33 0 f9 20 0 3 = nI P := h2.2.1
    have hD' : ∀ q, q < 6 → PA (jx_st (jx_st h 4 p f) 33 0 f9 22 0) q (DD q) := h2.2.2.2.2
    refine jx_MW_mono (S_M_blot hP' h2.2.2.1 hD') (fun r' g' hq => ?_)
    have hd : (hd9 (nI p) (nI i) (nI j) P && (sz9 (nI w) && sz9 (nI v))) = true := by
      rw [hd9, hp9_n hp (by have := h2.2.2.1; omega), hp9_n hi (by decide), hp9_n hj (by decide), sz9_n hw1 hw2, sz9_n hv1 hv2]
      rfl
    obtain ⟨rfl, f2, rfl, hf2⟩ := hq.1 hd p i j w v hp hi hj hw1 hw2 hv1 hv2 rfl rfl rfl rfl rfl
    exact ⟨rfl, rfl, rfl, len, dc, P, dup DD p (pD (DD p) i j (min (i + w) 18) (min (j + v) 18) c), kp, nd, ln, bb, pl, rl, h1, ⟨h2.1, h2.2.1, h2.2.2.1, dup_L h2.2.2.2.1 hf, dup_P h2.2.2.2.2 hf2⟩, h3, h4, h5, h6, h7, h8⟩
  · obtain ⟨rfl, rfl, q1⟩ := hq
    refine ⟨rfl, rfl, jx_MW_mono (S_M_blot h2.2.1 h2.2.2.1 h2.2.2.2.2) (fun r' g' hq => ?_)⟩
    obtain rfl := hq.2 q1
    exact ⟨rfl, REL_thr hR0 1⟩
theorem Q_rebuild {h : jxH} (hR : REL h) : jx_BM 108 [jR 0 0] h (fun q h1 => ∀ f9, jx_MW 91 [jR 20 0] (jx_st h1 33 0 f9) (RQ f9 q)) (fun z h1 => h1 = h ∧ z = 1 ∧ jx_MW 91 [jR 20 0] h (RT 1)) := by
  have hR0 := hR
  obtain ⟨len, dc, P, DD, kp, nd, ln, bb, pl, rl, h1, h2, h3, h4, h5, h6, h7, h8⟩ := hR
  have hk := R_kp h5
  refine ⟨_, _, B_V_rebuild h4.1 h4.2.2.1 h4.2.2.2.2.2.2.1 h6.1 (by omega) h5.1, fun q g hq => ?_, fun z g hq => ?_⟩
  · obtain ⟨q1, rfl, c, r, rfl, hr⟩ := hq
    intro f9
    refine jx_MW_mono (S_M_rebuild (kp := kp) (nd := nd) (ln := ln) (b := bb) (pl := pl) (h := jx_st (jx_st (jx_st (jx_st h 10 1 c) 18 0 r) 14 0 (upd (h 14 0) 6 (h 14 0 4))) 33 0 f9) h8.1 h4.2.1 h4.2.2.2.1 h4.2.2.2.2.2.1 h4.2.2.2.2.2.2.2 h6.2 (by omega) h5.1 h5.2.1 h5.2.2.2) (fun r' g' hq => ?_)
    obtain ⟨rfl, f, rfl, hf⟩ := hq.1 q1
    have hln : ln ≤ 80 := by have := h5.1; have := h5.2.1; omega
    refine ⟨rfl, h4.2.2.2.2.1.symm, rfl, len, dc, P, DD, kp, nd, ln, bb, pl, ln, h1, h2, h3, h4, h5, h6, ⟨h4.2.2.2.2.1, rfl, hln, fun i hi => ?_⟩, h8⟩
    show r i = f i
    have := h5.2.1
    rw [hf i hi, hr i (by omega) (by omega), pk_mul, nI_add]
  · obtain ⟨rfl, rfl, q1⟩ := hq
    refine ⟨rfl, rfl, jx_MW_mono (S_M_rebuild h8.1 h4.2.1 h4.2.2.2.1 h4.2.2.2.2.2.1 h4.2.2.2.2.2.2.2 h6.2 (by omega) h5.1 h5.2.1 h5.2.2.2) (fun r' g' hq => ?_)⟩
    obtain rfl := hq.2 q1
    exact ⟨rfl, REL_thr hR0 1⟩
noncomputable def pgs (dc : Nat → Nat) (len : Nat) (DD : Nat → Nat → Nat → Bool) (p : Nat) : Nat → Nat → Bool := if p < (len + 19) / 20 + 2 then pgD (dta dc len ((len + 19) / 20) p) 4 else DD p
theorem Q_print {h : jxH} (hR : REL h) : jx_BM 107 [jR 0 0] h (fun q h1 => ∀ f9, jx_MW 105 [jR 20 0] (jx_st h1 33 0 f9) (RQ f9 q)) (fun z h1 => h1 = h ∧ z = 1 ∧ jx_MW 105 [jR 20 0] h (RT 1)) := by
  have hR0 := hR
  obtain ⟨len, dc, P, DD, kp, nd, ln, bb, pl, rl, h1, h2, h3, h4, h5, h6, h7, h8⟩ := hR
  obtain ⟨s0, hs0⟩ := h8.2.1
  obtain ⟨s1, hs1⟩ := h8.2.2
  refine ⟨_, _, B_V_print h1.1 h1.2.2.1 h1.2.2.2.1 hs0 hs1, fun q g hq => ?_, fun z g hq => ?_⟩
  · obtain ⟨q1, rfl, q2, q3, q4, q5, q6, q7⟩ := hq
    have K : ∀ k i, k ≠ 0 → k ≠ 4 → k ≠ 5 → k ≠ 7 → k ≠ 10 → g k i = h k i := fun k i a1 a2 a3 a4 a5 => q2 k i a1 a2 a3 (Or.inl a4) (Or.inl a5)
    intro f9
    have k20 : jx_st g 33 0 f9 20 0 = h 20 0 := K 20 0 (by decide) (by decide) (by decide) (by decide) (by decide)
    have k21 : jx_st g 33 0 f9 21 0 = h 21 0 := K 21 0 (by decide) (by decide) (by decide) (by decide) (by decide)
    have k22 : jx_st g 33 0 f9 22 0 = h 22 0 := K 22 0 (by decide) (by decide) (by decide) (by decide) (by decide)
    have k23 : jx_st g 33 0 f9 23 0 = h 23 0 := K 23 0 (by decide) (by decide) (by decide) (by decide) (by decide)
    refine jx_MW_mono (S_M_print (len := len) (dc := dc) (DD := DD) (by rw [k23]; exact h8.1) (by rw [k20]; exact h1.2.1) h1.2.2.1 (by rw [k21]; exact h1.2.2.2.2) (by rw [k22]; exact h2.2.2.2.2)) (fun r' g' hq => ?_)
    obtain ⟨rfl, w1, w2, w3, w4⟩ := hq.1 q1
    have L : ∀ k i, k ≠ 0 → k ≠ 4 → k ≠ 5 → k ≠ 7 → k ≠ 10 → k ≠ 20 → k ≠ 22 → (k ≠ 26 ∧ k ≠ 33) → g' k i = h k i := fun k i a1 a2 a3 a4 a5 a6 a7 a8 => (w1 k i a6 a7 a8.1).trans ((jx_stk a8.2).trans (K k i a1 a2 a3 a4 a5))
    have M : ∀ k i, k ≠ 20 → k ≠ 22 → (k ≠ 26 ∧ k ≠ 33) → g' k i = g k i := fun k i a1 a2 a3 => (w1 k i a1 a2 a3.1).trans (jx_stk a3.2)
    have e0 : g' 0 0 = upd (h 0 0) 3 (nI ((len + 19) / 20 + 2)) := (M 0 0 (by decide) (by decide) (by decide)).trans q3
    have e20 : g' 20 0 = upd (upd (h 20 0) 0 (nI 0)) 3 (nI ((len + 19) / 20 + 2)) := by rw [w2, k20]
    have hl9 := h1.2.2.1
    refine ⟨by rw [e20]; rfl, rfl, (w1 33 0 (by decide) (by decide) (by decide)).trans (jx_st_same _ _ _ _), len, dc, (len + 19) / 20 + 2, pgs dc len DD, kp, nd, ln, bb, pl, rl, ?_, ?_, ?_, ?_, h5, ?_, ?_, ?_⟩
    · refine ⟨by rw [e0]; exact h1.1, by rw [e20]; exact h1.2.1, hl9, ?_, ?_⟩
      · rw [L 1 0 (by decide) (by decide) (by decide) (by decide) (by decide) (by decide) (by decide) (by decide)]; exact h1.2.2.2.1
      · rw [L 21 0 (by decide) (by decide) (by decide) (by decide) (by decide) (by decide) (by decide) (by decide)]; exact h1.2.2.2.2
    · refine ⟨by rw [e0]; rfl, by rw [e20]; rfl, by omega, fun p hp => ?_, fun p hp => ?_⟩
      · rw [M 4 p (by decide) (by decide) (by decide)]
        by_cases hpp : p < (len + 19) / 20 + 2
        · rw [pgs, if_pos hpp]; exact q5 p hpp
        · rw [pgs, if_neg hpp, q4 p (by omega)]; exact h2.2.2.2.1 p hp
      · by_cases hpp : p < (len + 19) / 20 + 2
        · rw [pgs, if_pos hpp]; exact w4 p hpp
        · rw [pgs, if_neg hpp]
          intro x y hx hy
          rw [w3 _ (by omega), k22]
          exact h2.2.2.2.2 p hp x y hx hy
    · intro r hr
      rw [L 13 0 (by decide) (by decide) (by decide) (by decide) (by decide) (by decide) (by decide) (by decide), L 29 0 (by decide) (by decide) (by decide) (by decide) (by decide) (by decide) (by decide) (by decide)]
      exact h3 r hr
    · have e14 : g' 14 0 = h 14 0 := L 14 0 (by decide) (by decide) (by decide) (by decide) (by decide) (by decide) (by decide) (by decide)
      have e17 : g' 17 0 = h 17 0 := L 17 0 (by decide) (by decide) (by decide) (by decide) (by decide) (by decide) (by decide) (by decide)
      have e30 : g' 30 0 = h 30 0 := L 30 0 (by decide) (by decide) (by decide) (by decide) (by decide) (by decide) (by decide) (by decide)
      refine ⟨by rw [e14]; exact h4.1, by rw [e20]; exact h4.2.1, by rw [e14]; exact h4.2.2.1, by rw [e20]; exact h4.2.2.2.1, by rw [e14]; exact h4.2.2.2.2.1, by rw [e20]; exact h4.2.2.2.2.2.1, by rw [e17]; exact h4.2.2.2.2.2.2.1, by rw [e30]; exact h4.2.2.2.2.2.2.2⟩
    · refine ⟨fun p hp => ?_, ?_⟩
      · rw [L 16 p (by decide) (by decide) (by decide) (by decide) (by decide) (by decide) (by decide) (by decide)]; exact h6.1 p hp
      · rw [L 31 0 (by decide) (by decide) (by decide) (by decide) (by decide) (by decide) (by decide) (by decide)]; exact h6.2
    · have e14 : g' 14 0 = h 14 0 := L 14 0 (by decide) (by decide) (by decide) (by decide) (by decide) (by decide) (by decide) (by decide)
      have e18 : g' 18 0 = h 18 0 := L 18 0 (by decide) (by decide) (by decide) (by decide) (by decide) (by decide) (by decide) (by decide)
      have e32 : g' 32 0 = h 32 0 := L 32 0 (by decide) (by decide) (by decide) (by decide) (by decide) (by decide) (by decide) (by decide)
      exact ⟨by rw [e14]; exact h7.1, by rw [e20]; exact h7.2.1, h7.2.2.1, by rw [e18, e32]; exact h7.2.2.2⟩
    · refine ⟨?_, ?_, ?_⟩
      · rw [L 23 0 (by decide) (by decide) (by decide) (by decide) (by decide) (by decide) (by decide) (by decide)]; exact h8.1
      · rw [M 10 0 (by decide) (by decide) (by decide)]; exact q6
      · rw [M 7 0 (by decide) (by decide) (by decide)]; exact q7
  · obtain ⟨rfl, rfl, q1⟩ := hq
    refine ⟨rfl, rfl, jx_MW_mono (S_M_print h8.1 h1.2.1 h1.2.2.1 h1.2.2.2.2 h2.2.2.2.2) (fun r' g' hq => ?_)⟩
    obtain rfl := hq.2 q1
    exact ⟨rfl, REL_thr hR0 1⟩
theorem sm_one {b : Nat → Bool} {q : Nat} : ∀ {n : Nat}, (∀ k, k < n → k ≠ q → b k = false) → b q = true → sm (fun k => (b k).toNat) 0 n = if q < n then 1 else 0
  | 0, _, _ => rfl
  | n + 1, h1, h2 => by
    show sm (fun k => (b k).toNat) 0 n + (b (0 + n)).toNat = _
    rw [sm_one (fun k hk => h1 k (by omega)) h2, Nat.zero_add]
    by_cases hq : q = n
    · subst hq
      rw [if_neg (Nat.lt_irrefl _), if_pos (by omega), h2]
      rfl
    · rw [h1 n (by omega) (Ne.symm hq)]
      show _ + 0 = _
      exact if_iff ⟨fun z => by omega, fun z => by omega⟩
theorem sm_bup {b : Nat → Bool} {q : Nat} (hb : b q = false) : ∀ {n : Nat}, sm (fun k => (bup b q true k).toNat) 0 n = sm (fun k => (b k).toNat) 0 n + if q < n then 1 else 0
  | 0 => rfl
  | n + 1 => by
    show sm (fun k => (bup b q true k).toNat) 0 n + (bup b q true (0 + n)).toNat = sm (fun k => (b k).toNat) 0 n + (b (0 + n)).toNat + _
    rw [sm_bup hb, Nat.zero_add]
    by_cases hq : q = n
    · subst hq
      rw [if_neg (Nat.lt_irrefl _), if_pos (by omega), hb, show bup b q true q = true by simp [bup]]
      rfl
    · rw [show bup b q true n = b n by simp [bup, Ne.symm hq], show (if q < n + 1 then 1 else 0) = if q < n then 1 else 0 from if_iff ⟨fun z => by omega, fun z => by omega⟩]
      omega
theorem sm_0 {f : Nat → Nat} : ∀ {n : Nat}, (∀ k, k < n → f k = 0) → sm f 0 n = 0
  | 0, _ => rfl
  | n + 1, h => by
    show sm f 0 n + f (0 + n) = 0
    rw [sm_0 (fun k hk => h k (by omega)), Nat.zero_add, Nat.zero_add, h n (by omega)]
theorem REL_g {h g : jxH} (hR : REL h) (Y : ∀ k i, k ≠ 20 → k ≠ 13 → k ≠ 29 → k ≠ 8 → k ≠ 12 → (k ≠ 7 ∨ i = 0) → (k < 24 ∨ (29 < k ∧ k < 33)) → g k i = h k i) (Y20 : g 20 0 = upd (h 20 0) 0 (nI 0)) (hE : R_err g) : REL g := by
  obtain ⟨len, dc, P, DD, kp, nd, ln, b, pl, rl, h1, h2, h3, h4, h5, h6, h7, h8⟩ := hR
  have Z : ∀ k, k ≠ 20 → k ≠ 13 → k ≠ 29 → k ≠ 8 → k ≠ 12 → (k < 24 ∨ (29 < k ∧ k < 33)) → g k 0 = h k 0 := fun k a1 a2 a3 a4 a5 a6 => Y k 0 a1 a2 a3 a4 a5 (Or.inr rfl) a6
  have z0 := Z 0 (by decide) (by decide) (by decide) (by decide) (by decide) (by decide)
  have z1 := Z 1 (by decide) (by decide) (by decide) (by decide) (by decide) (by decide)
  have z21 := Z 21 (by decide) (by decide) (by decide) (by decide) (by decide) (by decide)
  have z22 := Z 22 (by decide) (by decide) (by decide) (by decide) (by decide) (by decide)
  have z14 := Z 14 (by decide) (by decide) (by decide) (by decide) (by decide) (by decide)
  have z17 := Z 17 (by decide) (by decide) (by decide) (by decide) (by decide) (by decide)
  have z30 := Z 30 (by decide) (by decide) (by decide) (by decide) (by decide) (by decide)
  have z31 := Z 31 (by decide) (by decide) (by decide) (by decide) (by decide) (by decide)
  have z18 := Z 18 (by decide) (by decide) (by decide) (by decide) (by decide) (by decide)
  have z32 := Z 32 (by decide) (by decide) (by decide) (by decide) (by decide) (by decide)
  have z23 := Z 23 (by decide) (by decide) (by decide) (by decide) (by decide) (by decide)
  have z10 := Z 10 (by decide) (by decide) (by decide) (by decide) (by decide) (by decide)
  have z7 := Z 7 (by decide) (by decide) (by decide) (by decide) (by decide) (by decide)
  refine ⟨len, dc, P, DD, kp, nd, ln, b, pl, rl, ?_, ?_, hE, ?_, h5, ?_, ?_, ?_⟩
  · exact ⟨by rw [z0]; exact h1.1, by rw [Y20]; exact h1.2.1, h1.2.2.1, by rw [z1]; exact h1.2.2.2.1, by rw [z21]; exact h1.2.2.2.2⟩
  · refine ⟨by rw [z0]; exact h2.1, by rw [Y20]; exact h2.2.1, h2.2.2.1, fun p hp => ?_, fun p hp => by rw [z22]; exact h2.2.2.2.2 p hp⟩
    rw [Y 4 p (by decide) (by decide) (by decide) (by decide) (by decide) (Or.inl (by decide)) (by decide)]
    exact h2.2.2.2.1 p hp
  · exact ⟨by rw [z14]; exact h4.1, by rw [Y20]; exact h4.2.1, by rw [z14]; exact h4.2.2.1, by rw [Y20]; exact h4.2.2.2.1, by rw [z14]; exact h4.2.2.2.2.1, by rw [Y20]; exact h4.2.2.2.2.2.1, by rw [z17]; exact h4.2.2.2.2.2.2.1, by rw [z30]; exact h4.2.2.2.2.2.2.2⟩
  · refine ⟨fun p hp => ?_, by rw [z31]; exact h6.2⟩
    rw [Y 16 p (by decide) (by decide) (by decide) (by decide) (by decide) (Or.inl (by decide)) (by decide)]
    exact h6.1 p hp
  · exact ⟨by rw [z14]; exact h7.1, by rw [Y20]; exact h7.2.1, h7.2.2.1, by rw [z18, z32]; exact h7.2.2.2⟩
  · exact ⟨by rw [z23]; exact h8.1, by rw [z10]; exact h8.2.1, by rw [z7]; exact h8.2.2⟩
theorem hS4_e {h : jxH} (a c e d : Nat → Int32) {k i : Nat} (h8 : k ≠ 8) (h12 : k ≠ 12) (h13 : k ≠ 13) (h7 : k ≠ 7 ∨ i = 0) : hS4 h a c e d k i = h k i := by
  unfold hS4
  rw [jx_stk h12, jx_stk h13, jx_stk h8]
  rcases h7 with h7 | rfl
  · exact jx_stk h7
  · by_cases h7 : k = 7
    · subst h7; rfl
    · exact jx_stk h7
theorem Q_feed {pg tn : Int32} {h : jxH} (hR : REL h) : jx_BM 111 [jR 0 0, jI pg, jI tn] h (fun q h1 => ∀ f9, jx_MW 110 [jR 20 0, jI pg, jI tn] (jx_st h1 33 0 f9) (RQ f9 q)) (fun z h1 => h1 = h ∧ z = 0 ∧ jx_MW 110 [jR 20 0, jI pg, jI tn] h (RT 1)) := by
  have hR0 := hR
  obtain ⟨len, dc, P, DD, kp, nd, ln, bb, pl, rl, h1, h2, h3, h4, h5, h6, h7, h8⟩ := hR
  have hk := R_kp h5
  have hn4 := h5.1
  have hl9 := h5.2.1
  have hP6 := h2.2.2.1
  refine ⟨_, _, B_V_feed h2.1 h2.2.2.1 h2.2.2.2.1 h4.1 h4.2.2.1 h4.2.2.2.2.1 h4.2.2.2.2.2.2.1 (by omega) (by omega) (by omega), fun q g hq => ?_, fun z g hq => ?_⟩
  rotate_left
  · obtain ⟨rfl, rfl, q1⟩ := hq
    refine ⟨rfl, rfl, jx_MW_mono (S_M_feed h8.1 h2.2.1 h2.2.2.1 h2.2.2.2.2 h4.2.1 h4.2.2.2.1 h4.2.2.2.2.2.1 h4.2.2.2.2.2.2.2 (by omega) (by omega) (by omega)) (fun r' g' hq => ?_)⟩
    obtain rfl := hq.2 q1
    exact ⟨rfl, REL_thr hR0 1⟩
  obtain ⟨p, t, a, c, e, dd, hp, ht, rfl, rfl, hq⟩ := hq
  have hv : (hp9 (nI p) P && hp9 (nI t) 4) = true := by rw [hp9_n hp (by omega), hp9_n ht (by decide)]; rfl
  generalize hD : DD p = D at hq
  generalize hT : rdT D t = T at hq
  -- g agrees with h on the reference's cells
  have gM : ∀ k, 20 ≤ k → g k 0 = h k 0 := by
    have s4 : ∀ k, 20 ≤ k → hS4 h a c e dd k 0 = h k 0 := fun k hk => hS4_e a c e dd (by omega) (by omega) (by omega) (Or.inr rfl)
    rcases hq with ⟨-, -, -, rfl⟩ | ⟨-, -, ⟨-, -, rfl⟩ | ⟨-, -, ⟨-, -, -, rfl⟩ | ⟨-, -, k2, k3⟩⟩⟩
    · exact s4
    · exact s4
    · exact s4
    · have ht9 : ∀ k, 20 ≤ k → htk (hS4 h a c e dd) kp (rdd D T) k 0 = h k 0 := fun k hk => by
        unfold htk
        split
        · rw [jx_stk (by omega)]; exact s4 k hk
        · exact s4 k hk
      intro k hk
      cases hb9 : bb (rdd D T 0) with
      | true => rw [k2 hb9]; exact ht9 k hk
      | false =>
        obtain ⟨f, rfl, -⟩ := k3 hb9
        unfold hst
        rw [jx_stk (by omega), jx_stk (by omega), jx_stk (by omega)]
        exact ht9 k hk
  intro f9
  have m20 : jx_st g 33 0 f9 20 0 = h 20 0 := gM 20 (by decide)
  have m22 : jx_st g 33 0 f9 22 0 = h 22 0 := gM 22 (by decide)
  have m23 : jx_st g 33 0 f9 23 0 = h 23 0 := gM 23 (by decide)
  have m30 : jx_st g 33 0 f9 30 0 = h 30 0 := gM 30 (by decide)
  refine jx_MW_mono (S_M_feed (P := P) (kp := kp) (nd := nd) (ln := ln) (b := bb) (DD := DD) (by rw [m23]; exact h8.1) (by rw [m20]; exact h2.2.1) h2.2.2.1 (by rw [m22]; exact h2.2.2.2.2) (by rw [m20]; exact h4.2.1) (by rw [m20]; exact h4.2.2.2.1) (by rw [m20]; exact h4.2.2.2.2.2.1) (by rw [m30]; exact h4.2.2.2.2.2.2.2) (by omega) (by omega) (by omega)) (fun r' g' hm => ?_)
  obtain ⟨g1, hX, hm⟩ := hm.1 hv p t hp ht rfl rfl
  rw [hD, hT] at hm
  have X : ∀ k i, k ≠ 20 → k < 24 ∨ (29 < k ∧ k < 33) → g1 k i = g k i := fun k i h20 hk => (hX k i (by omega) (by omega) (by omega) (by omega) (by omega) (by omega)).trans ((jx_stk h20).trans (jx_stk (by omega)))
  have X33 : g1 33 0 = f9 := (hX 33 0 (by decide) (by decide) (by decide) (by decide) (by decide) (by decide)).trans ((jx_stk (by decide)).trans (jx_st_same _ _ _ _))
  have X20 : g1 20 0 = upd (h 20 0) 0 (nI 0) := (hX 20 0 (by decide) (by decide) (by decide) (by decide) (by decide) (by decide)).trans (by
    show upd (jx_st g 33 0 f9 20 0) 0 (nI 0) = _
    rw [m20])
  have X13 : g1 13 0 = g 13 0 := X 13 0 (by decide) (by decide)
  have same : g = hS4 h a c e dd → (∀ r, r < 4 → e r = g1 29 0 r) → REL g1 := fun hg he => REL_g hR0 (fun k i a1 a2 a3 a4 a5 a6 a7 => by
      rw [X k i a1 a7, hg]
      exact hS4_e a c e dd a4 a5 a2 a6) X20 (fun r hr => by rw [X13, hg]; exact he r hr)
  have t0 : g1 20 0 0 = nI 0 := by rw [X20]; rfl
  rcases hq with ⟨c1, rfl, c2, hg⟩ | ⟨c1, c2, hq⟩
  · rcases hm with ⟨d1, rfl, d2, rfl⟩ | ⟨d1, -⟩
    · exact ⟨t0, rfl, X33, same hg (fun r hr => by rw [c2 r hr, d2 r hr])⟩
    · exact absurd c1 (by omega)
  rcases hm with ⟨d1, -⟩ | ⟨d1, d2, hm⟩
  · exact absurd c1 (by omega)
  have ee : ∀ r, r < 4 → e r = g1 29 0 r := fun r hr => by rw [c2 r hr, d2 r hr]
  rcases hq with ⟨c3, rfl, hg⟩ | ⟨c3, c4, hq⟩
  · rcases hm with ⟨d3, rfl, rfl⟩ | ⟨d3, -⟩
    · exact ⟨t0, rfl, X33, same hg ee⟩
    · exact absurd (c3.symm.trans d3) (by decide)
  rcases hm with ⟨d3, -⟩ | ⟨d3, d4, hm⟩
  · exact absurd (c3.symm.trans d3) (by decide)
  generalize rdd D T = d at *
  have htp := c3
  simp only [Bool.and_eq_true, tp, decide_eq_true_eq] at htp
  obtain ⟨-, tp1, tp2, tp3, tp4, tp5⟩ := htp
  rcases hq with ⟨c5, c6, rfl, hg⟩ | ⟨c5, rfl, c6, c7⟩
  · rcases hm with ⟨d5, d6, rfl, rfl⟩ | ⟨d5, -⟩
    · exact ⟨t0, rfl, X33, same hg ee⟩
    · exact absurd d5 (by
        rintro (z | z)
        · exact c5 z
        · exact c6 z)
  rcases hm with ⟨d5, d6, -⟩ | ⟨d5, rfl, d6, d7⟩
  · exact absurd c5 (by
      rintro (z | z)
      · exact d5 z
      · exact d6 z)
  cases hb9 : bb (d 0) with
  | true =>
    obtain rfl := d6 hb9
    have hk0 : ¬ kp = 0 := fun z => by
      have := h5.2.2.1 z (d 0) (by omega)
      rw [hb9] at this
      cases this
    have hg := c6 hb9
    rw [htk, if_neg hk0] at hg
    exact ⟨t0, rfl, X33, same hg ee⟩
  | false =>
    obtain ⟨f, hg, hf⟩ := c7 hb9
    obtain ⟨f2, rfl, hf2⟩ := d7 hb9
    -- the class's cells
    have gk : ∀ k i, k < 20 → k ≠ 14 → k ≠ 16 → k ≠ 17 → k ≠ 8 → k ≠ 12 → k ≠ 13 → (k ≠ 7 ∨ i = 0) → g k i = h k i := fun k i _ a1 a2 a3 a4 a5 a6 a7 => by
      rw [hg]
      unfold hst
      rw [jx_stk a1, jx_stk a3, jx_stk a2]
      unfold htk
      split
      · rw [jx_stk a1]; exact hS4_e a c e dd a4 a5 a6 a7
      · exact hS4_e a c e dd a4 a5 a6 a7
    have g14 : g 14 0 2 = nI (kp + 1) ∧ g 14 0 3 = nI (d 1) ∧ g 14 0 4 = nI (d 2 + 16 * d 3) ∧ g 14 0 6 = nI rl := by
      rw [hg]
      unfold hst
      rw [jx_st_same]
      by_cases hk0 : kp = 0
      · rw [htk, if_pos hk0, jx_st_same]
        refine ⟨?_, rfl, rfl, h7.1⟩
        show h 14 0 2 + nI 1 = _
        rw [h4.1, nI_add]
      · rw [htk, if_neg hk0]
        obtain ⟨z1, z2⟩ : d 1 = nd ∧ d 2 + 16 * d 3 = ln := by
          rcases c5 with z | z
          · exact absurd z hk0
          · exact z
        refine ⟨?_, h4.2.2.1.trans (by rw [z1]), h4.2.2.2.2.1.trans (by rw [z2]), h7.1⟩
        show h 14 0 2 + nI 1 = _
        rw [h4.1, nI_add]
    have t17 : htk (hS4 h a c e dd) kp d 17 0 = h 17 0 := by
      unfold htk
      split <;> rfl
    have t16 : ∀ i, htk (hS4 h a c e dd) kp d 16 i = h 16 i := fun i => by
      unfold htk
      split
      · rw [jx_stk (by decide)]; exact hS4_e a c e dd (by decide) (by decide) (by decide) (Or.inl (by decide))
      · exact hS4_e a c e dd (by decide) (by decide) (by decide) (Or.inl (by decide))
    have t13 : htk (hS4 h a c e dd) kp d 13 0 = e := by
      unfold htk
      split <;> rfl
    have g17 : g 17 0 = upd (h 17 0) (d 0) (nI 1) := by
      rw [hg]
      unfold hst
      rw [jx_stk (by decide), jx_st_same, t17]
    have g13 : g 13 0 = e := by
      rw [hg]
      unfold hst
      rw [jx_stk (by decide), jx_stk (by decide), jx_stk (by decide), t13]
    have g16 : ∀ i, g 16 i = if i = d 0 then f else h 16 i := fun i => by
      rw [hg]
      unfold hst
      rw [jx_stk (by decide), jx_stk (by decide)]
      by_cases hi : i = d 0
      · subst hi; rw [jx_st_same, if_pos rfl]
      · rw [jx_st_ne (fun z => hi (Prod.mk.inj z).2), if_neg hi, t16]
    have N : ∀ k i, k ≠ 20 → k ≠ 30 → k ≠ 31 → (k < 24 ∨ (29 < k ∧ k < 33)) → jx_st (jx_st (jx_st g1 30 0 (upd (g1 30 0) (d 0) (nI 1))) 20 0 (upd (upd (upd (g1 20 0) 12 (nI (kp + 1))) 13 (nI (d 1))) 14 (nI (d 2 + 16 * d 3)))) 31 0 f2 k i = g k i := fun k i a1 a2 a3 a4 => by
      rw [jx_stk a3, jx_stk a1, jx_stk a2]
      exact X k i a1 a4
    have N20 : jx_st (jx_st (jx_st g1 30 0 (upd (g1 30 0) (d 0) (nI 1))) 20 0 (upd (upd (upd (g1 20 0) 12 (nI (kp + 1))) 13 (nI (d 1))) 14 (nI (d 2 + 16 * d 3)))) 31 0 f2 20 0 = upd (upd (upd (upd (h 20 0) 0 (nI 0)) 12 (nI (kp + 1))) 13 (nI (d 1))) 14 (nI (d 2 + 16 * d 3)) := by
      rw [jx_stk (by decide), jx_st_same, X20]
    have x30 : g1 30 0 = h 30 0 := (X 30 0 (by decide) (by decide)).trans (gM 30 (by decide))
    have x31 : g1 31 0 = h 31 0 := (X 31 0 (by decide) (by decide)).trans (gM 31 (by decide))
    have hsm : kp + 1 = sm (fun k => (bup bb (d 0) true k).toNat) 0 (d 1 + 2) := by
      rw [sm_bup hb9, if_pos (by omega)]
      congr 1
      by_cases hk0 : kp = 0
      · rw [hk0, sm_0 (fun k hk => by rw [h5.2.2.1 hk0 k (by omega)]; rfl)]
      · have z : d 1 = nd := by
          rcases c5 with z | z
          · exact absurd z hk0
          · exact z.1
        rw [z]
        exact h5.2.2.2 (by omega)
    refine ⟨?_, rfl, X33, len, dc, P, DD, kp + 1, d 1, d 2 + 16 * d 3, bup bb (d 0) true, (fun p => if p = d 0 then (fun m => d (4 + m)) else pl p), rl, ?_, ?_, ?_, ?_, ⟨by omega, by omega, fun z => absurd z (by omega), fun _ => hsm⟩, ?_, ?_, ?_⟩
    · rw [N20]; rfl
    · refine ⟨?_, ?_, h1.2.2.1, ?_, ?_⟩
      · rw [N 0 0 (by decide) (by decide) (by decide) (by decide), gk 0 0 (by decide) (by decide) (by decide) (by decide) (by decide) (by decide) (by decide) (Or.inr rfl)]; exact h1.1
      · rw [N20]; exact h1.2.1
      · rw [N 1 0 (by decide) (by decide) (by decide) (by decide), gk 1 0 (by decide) (by decide) (by decide) (by decide) (by decide) (by decide) (by decide) (Or.inr rfl)]; exact h1.2.2.2.1
      · rw [N 21 0 (by decide) (by decide) (by decide) (by decide), gM 21 (by decide)]; exact h1.2.2.2.2
    · refine ⟨?_, ?_, h2.2.2.1, fun p hp => ?_, fun p hp => ?_⟩
      · rw [N 0 0 (by decide) (by decide) (by decide) (by decide), gk 0 0 (by decide) (by decide) (by decide) (by decide) (by decide) (by decide) (by decide) (Or.inr rfl)]; exact h2.1
      · rw [N20]; exact h2.2.1
      · rw [N 4 p (by decide) (by decide) (by decide) (by decide), gk 4 p (by decide) (by decide) (by decide) (by decide) (by decide) (by decide) (by decide) (Or.inl (by decide))]; exact h2.2.2.2.1 p hp
      · rw [N 22 0 (by decide) (by decide) (by decide) (by decide), gM 22 (by decide)]; exact h2.2.2.2.2 p hp
    · intro r hr
      rw [N 13 0 (by decide) (by decide) (by decide) (by decide), g13]
      exact ee r hr
    · refine ⟨?_, ?_, ?_, ?_, ?_, ?_, ?_, ?_⟩
      · rw [N 14 0 (by decide) (by decide) (by decide) (by decide)]; exact g14.1
      · rfl
      · rw [N 14 0 (by decide) (by decide) (by decide) (by decide)]; exact g14.2.1
      · rfl
      · rw [N 14 0 (by decide) (by decide) (by decide) (by decide)]; exact g14.2.2.1
      · rfl
      · rw [N 17 0 (by decide) (by decide) (by decide) (by decide), g17]
        exact h4.2.2.2.2.2.2.1.put (k := d 0) true
      · show BA (upd (g1 30 0) (d 0) (nI 1)) 6 _
        rw [x30]
        exact h4.2.2.2.2.2.2.2.put (k := d 0) true
    · refine ⟨fun p hp => ?_, fun p hp m hm => ?_⟩
      · rw [N 16 p (by decide) (by decide) (by decide) (by decide), g16 p]
        by_cases hpd : p = d 0
        · rw [if_pos hpd]
          show AR f 40 16 (if p = d 0 then (fun m => d (4 + m)) else pl p)
          rw [if_pos hpd]
          exact hf
        · rw [if_neg hpd]
          show AR (h 16 p) 40 16 (if p = d 0 then (fun m => d (4 + m)) else pl p)
          rw [if_neg hpd]
          exact h6.1 p hp
      · rw [jx_st_same, hf2 (40 * p + m)]
        show _ = nI ((if p = d 0 then (fun m => d (4 + m)) else pl p) m) ∧ (if p = d 0 then (fun m => d (4 + m)) else pl p) m < 16
        by_cases hpd : p = d 0
        · rw [if_pos (by omega), if_pos hpd, show 40 * p + m - 40 * d 0 = m by omega]
          exact ⟨rfl, d4 _ (by omega)⟩
        · rw [if_neg (by omega), if_neg hpd, x31]
          exact h6.2 p hp m hm
    · refine ⟨?_, ?_, h7.2.2.1, fun i hi => ?_⟩
      · rw [N 14 0 (by decide) (by decide) (by decide) (by decide)]; exact g14.2.2.2
      · rw [N20]; exact h7.2.1
      · rw [N 18 0 (by decide) (by decide) (by decide) (by decide), gk 18 0 (by decide) (by decide) (by decide) (by decide) (by decide) (by decide) (by decide) (Or.inr rfl), N 32 0 (by decide) (by decide) (by decide) (by decide), gM 32 (by decide)]
        exact h7.2.2.2 i hi
    · refine ⟨?_, ?_, ?_⟩
      · rw [N 23 0 (by decide) (by decide) (by decide) (by decide), gM 23 (by decide)]; exact h8.1
      · rw [N 10 0 (by decide) (by decide) (by decide) (by decide), gk 10 0 (by decide) (by decide) (by decide) (by decide) (by decide) (by decide) (by decide) (Or.inr rfl)]; exact h8.2.1
      · rw [N 7 0 (by decide) (by decide) (by decide) (by decide), gk 7 0 (by decide) (by decide) (by decide) (by decide) (by decide) (by decide) (by decide) (Or.inr rfl)]; exact h8.2.2
end
section
/-! ===== BEGIN words of one list among another's, by their places ===== -/
theorem goodIn_r {big : List Cond} (ws : List Cond) (ps : List Nat) (hp : ws = ps.filterMap (fun i => big[i]?)) (h : ws.all goodWord = true) : GoodIn big ws := by
  intro w hw
  have h1 := List.all_eq_true.mp h w hw
  rw [hp] at hw
  obtain ⟨i, -, hi⟩ := List.mem_filterMap.mp hw
  have hm : w ∈ big := by first | exact List.mem_of_getElem? hi | exact List.getElem?_mem hi
  exact ⟨hm, good_of_word h1⟩
theorem goodIn_app {big a b : List Cond} (ha : GoodIn big a) (hb : GoodIn big b) : GoodIn big (a ++ b) := fun w h => (List.mem_append.mp h).elim (ha w) (hb w)
theorem goodIn_ca {big a b : List Cond} {c : Cond} (ha : GoodIn big (c :: a)) (hb : GoodIn big b) : GoodIn big (c :: (a ++ b)) := fun w h => (List.mem_cons.mp h).elim (fun e => ha w (List.mem_cons.mpr (Or.inl e))) (fun h => (List.mem_append.mp h).elim (fun h => ha w (List.mem_cons.mpr (Or.inr h))) (hb w))
theorem goodIn_sub {big ws : List Cond} (hm : ∀ w ∈ ws, w ∈ big) (h : ws.all goodWord = true) : GoodIn big ws := fun w hw => ⟨hm w hw, good_of_word (List.all_eq_true.mp h w hw)⟩
/-! ===== END ===== -/

/-! ===== BEGIN new T[n][m]: the outer array a place, the inner ones among the pooled ===== -/
/-- f, but v at every address of l -/
def vr_up {α : Type} (f : Nat → α) (l : List Nat) (v : α) : Nat → α := fun a => if a ∈ l then v else f a
theorem vr_up_in {α : Type} {f : Nat → α} {l : List Nat} {v : α} {a : Nat} (h : a ∈ l) : vr_up f l v a = v := if_pos h
theorem vr_up_ne {α : Type} {f : Nat → α} {l : List Nat} {v : α} {a : Nat} (h : a ∉ l) : vr_up f l v a = f a := if_neg h
theorem vr_rows {L l : List Nat} {f : Nat → va_E} {e : va_E} (h : ∀ a, a ∈ l → a ∉ L) : va_pl L f ++ l.map (fun a => (a, e)) = va_pl (L ++ l) (vr_up f l e) := by
  unfold va_pl
  rw [List.map_append]
  congr 1
  · apply List.map_congr_left
    intro a ha
    rw [vr_up_ne (fun q => h a q ha)]
  · apply List.map_congr_left
    intro a ha
    rw [vr_up_in ha]
theorem vr_lay {X rows : va_W} {x : Nat × va_E} {pl : va_W} {D : va_G} {cl : List vw_C} {H : Heap} (hP : va_P D cl (((X ++ pl) ++ [x]) ++ rows) H) : va_P D cl ((X ++ [x]) ++ (pl ++ rows)) H := by
  rw [List.append_assoc (X ++ pl)] at hP
  have h := va_P.swap hP
  rw [← List.append_assoc X] at h
  have h2 := va_P.swap h
  rw [List.append_assoc (X ++ [x])] at h2
  exact h2
theorem vr_layD {X rows : va_W} {x : Nat × va_E} {pl : va_W} {A : Nat → Prop} (hD : va_D A (((X ++ pl) ++ [x]) ++ rows)) : va_D A ((X ++ [x]) ++ (pl ++ rows)) := by
  rw [List.append_assoc (X ++ pl)] at hD
  have h := va_D.swap hD
  rw [← List.append_assoc X] at h
  have h2 := va_D.swap h
  rw [List.append_assoc (X ++ [x])] at h2
  exact h2
theorem vr_outer (c : ClassId) (N h0 : Nat) : ∀ i : Nat, Jvm.Free.Multi.outerC c N h0 i = arrV c N (fun j => va_rf (if j < i then some (h0 + 1 + j) else none))
  | 0 => by
    show ({ cls := c, slots := Array.replicate N .null, vm := .none } : Cell) = _
    rw [arrV_new]
    refine congrArg (arrV c N) (funext fun j => ?_)
    simp [va_rf]
  | i + 1 => by
    show (Jvm.Free.Multi.outerC c N h0 i).setSlot i (.ref (h0 + 1 + i)) = _
    rw [vr_outer c N h0 i, arrV_store]
    refine congrArg (arrV c N) (funext fun j => ?_)
    by_cases e : j = i
    · subst e
      simp [updV, va_rf]
    · by_cases h : j < i
      · simp [updV, e, h, Nat.lt_succ_of_lt h]
      · simp [updV, e, h, show ¬ j < i + 1 by omega]
section VGM
variable {p : Program} {l : Launch} {e : Env} {R : Room} {s : State} {m : MethodId} {args : Array Value} {below : List Frame} {meth : Method} {c : Code} {H : Heap} {locs : List Loc} {cells slots : Nat} {Q : State → Prop}
variable {cc : ByteArray} {pc : Nat} {ls : Array Slot} {rest : List Value} {D : va_G} {cl : List vw_C} {A : Nat → Prop} {a : Nat} {tys : List (ClassId × FieldType)} {ws : va_W} {H0 : Heap}
theorem va_mna {X : va_W} {L : List Nat} {f : Nat → va_E} {cc : ByteArray} (hexec : p.tables.exec = Jvm.exec) (hb : c.code = cc) {own : String} {index : Nat} {ty : FieldType} {cy : ClassId} (hown : s.vm.findClass own = some m.cls) (hclink : (Cond.classLink own index ("[" ++ (FieldType.array ty).toString)).before args s = true) (hover : (Cond.arrayOver (.array ty)).before args s = true) (harr : (Cond.arrayClass ty).before args s = true) (hcy : s.vm.findClass (FieldType.array ty).toString = some cy)
    (hK : va_K D cl tys s) (hP : va_P D cl (X ++ va_pl L f) H) (hD : va_D A (X ++ va_pl L f)) (hS : va_S A H0 H locs) (hA : ∀ q, H0.size ≤ q → A q) {n k : Int32} {N' K' : Nat} {z : vp_A} (hn : ¬ n < 0) (hk : ¬ k < 0) (hN : n.toNatClampNeg = N') (hM : k.toNatClampNeg = K')
    (hb1 : N' * 4 ≤ 536870912) (hb2 : K' * componentBytes ty ≤ 536870912) (hb3 : K' ≤ 536870912) (hdf : fits ty (defaultValue ty) = true) (hdd : (defaultValue ty).isDefault = true) (hcells : cells + (1 + N') ≤ R.cells) (hslots : slots + (N' + N' * K') ≤ R.slots) (hz : ∀ c : ClassId, Jvm.Free.Multi.innerC c K' (defaultValue ty) = vp_cell c z) (hdg : decode cc pc = .ok (.multianewarray index 2, 4))
    (kk : ∀ (q : Nat) (r : Nat → Nat) (cA : ClassId) (H1 : Heap), (∀ i j : Nat, i < N' → j < N' → r i = r j → i = j) → (∀ i : Nat, i < N' → r i ∉ L) → va_K D cl (tys ++ [(cA, .array ty)]) s →
      va_P D cl ((X ++ [(q, .inl (cA, N', .inr (.inr (.inr (.inr (fun i => if i < N' then some (r i) else none))))))]) ++ va_pl (L ++ (List.range N').map r) (vr_up f ((List.range N').map r) (.inl (cy, z)))) H1 → va_D A ((X ++ [(q, .inl (cA, N', .inr (.inr (.inr (.inr (fun i => if i < N' then some (r i) else none))))))]) ++ va_pl (L ++ (List.range N').map r) (vr_up f ((List.range N').map r) (.inl (cy, z)))) → va_S A H0 H1 locs →
      W p l e R s m args below meth c H1 locs (cells + 1 + N') (slots + N' + N' * K') Q (F0 m (pc + 4) ls (.ref q :: rest))) : W p l e R s m args below meth c H locs cells slots Q (F0 m pc ls (.int k :: .int n :: rest)) := by
  subst hN
  subst hM
  intro T hT Xs
  obtain ⟨vm₁, cA, comp, -, fA, fC, hO, -, X', step⟩ := Xs.multianewarray2F hexec hown hclink hover harr (g := F0 m pc ls (.int k :: .int n :: rest)) rfl (by rw [hb]; exact hdg) rfl hn hk hb1 hb2 hb3 hdf hdd hcells hslots
  have ec : some cy = some comp := hcy.symm.trans fC
  cases ec
  generalize hF : Jvm.Free.Multi.fill (T.setVm vm₁) cA cy n.toNatClampNeg k.toNatClampNeg (defaultValue ty) n.toNatClampNeg = F at X' step
  have hTh : (T.setVm vm₁).heap = H := hT
  obtain ⟨f1, f2, -, -⟩ := Jvm.Free.Multi.fill_facts (T.setVm vm₁) cA cy n.toNatClampNeg k.toNatClampNeg (defaultValue ty) n.toNatClampNeg
  rw [hF, hTh] at f1 f2
  have hold : ∀ x : Nat, x < H.size → F.heap[x]? = H[x]? := fun x hx => by
    have := Jvm.Free.Multi.fill_old (T.setVm vm₁) cA cy n.toNatClampNeg k.toNatClampNeg (defaultValue ty) (a := x) (by rw [hTh]; exact hx) n.toNatClampNeg
    rw [hF, hTh] at this
    exact this
  have hrow : ∀ j : Nat, j < n.toNatClampNeg → F.heap[H.size + 1 + j]? = some (vp_cell cy z) := fun j hj => by
    have := Jvm.Free.Multi.fill_inner (T.setVm vm₁) cA cy n.toNatClampNeg k.toNatClampNeg (defaultValue ty) n.toNatClampNeg j hj
    rw [hF, hTh, hz] at this
    exact this
  have hout : Jvm.Free.Multi.outerC cA n.toNatClampNeg H.size n.toNatClampNeg = vp_cell cA (n.toNatClampNeg, .inr (.inr (.inr (.inr (fun i => if i < n.toNatClampNeg then some (H.size + 1 + i) else none))))) := by
    rw [vp_cell_q]
    exact vr_outer cA n.toNatClampNeg H.size n.toNatClampNeg
  rw [hout] at f2
  have hlt : ∀ a, a ∈ L → a < H.size := fun a ha => by
    obtain ⟨k9, hk9⟩ := va_pl_get (X := X) (f := f) ha
    exact (hP k9 _ hk9).lt
  have hnl : ∀ i : Nat, i < n.toNatClampNeg → H.size + 1 + i ∉ L := fun i _ h => by
    have := hlt _ h
    omega
  have hnm : ∀ a, a ∈ (List.range n.toNatClampNeg).map (fun i => H.size + 1 + i) → a ∉ L := fun a ha h => by
    obtain ⟨i, -, rfl⟩ := List.mem_map.mp ha
    have := hlt _ h
    omega
  have hP0 : va_P D cl (X ++ va_pl L f) F.heap := hP.kept (fun k9 x hx => hold x.1 ((hP k9 x hx).lt))
  have hP1 : va_P D cl ((X ++ va_pl L f) ++ [(H.size, .inl (cA, n.toNatClampNeg, .inr (.inr (.inr (.inr (fun i => if i < n.toNatClampNeg then some (H.size + 1 + i) else none))))))]) F.heap := hP0.app (fun k9 x hx => by
    have h0 : k9 < 1 := (List.getElem?_eq_some_iff.mp hx).1
    rw [show k9 = 0 by omega] at hx
    cases hx
    exact f2)
  have hP2 : va_P D cl (((X ++ va_pl L f) ++ [(H.size, .inl (cA, n.toNatClampNeg, .inr (.inr (.inr (.inr (fun i => if i < n.toNatClampNeg then some (H.size + 1 + i) else none))))))]) ++ ((List.range n.toNatClampNeg).map (fun i => H.size + 1 + i)).map (fun a => (a, .inl (cy, z)))) F.heap := hP1.app (fun k9 x hx => by
    obtain ⟨a, ha, rfl⟩ := List.mem_map.mp (List.mem_of_getElem? hx)
    obtain ⟨i, hi, rfl⟩ := List.mem_map.mp ha
    exact hrow i (List.mem_range.mp hi))
  have hD2 : va_D A (((X ++ va_pl L f) ++ [(H.size, .inl (cA, n.toNatClampNeg, .inr (.inr (.inr (.inr (fun i => if i < n.toNatClampNeg then some (H.size + 1 + i) else none))))))]) ++ ((List.range n.toNatClampNeg).map (fun i => H.size + 1 + i)).map (fun a => (a, .inl (cy, z)))) := by
    have hD1 := hD.push (e := .inl (cA, n.toNatClampNeg, .inr (.inr (.inr (.inr (fun i => if i < n.toNatClampNeg then some (H.size + 1 + i) else none)))))) hP rfl (hA _ hS.1)
    generalize hW1 : (X ++ va_pl L f) ++ [(H.size, .inl (cA, n.toNatClampNeg, .inr (.inr (.inr (.inr (fun i => if i < n.toNatClampNeg then some (H.size + 1 + i) else none))))))] = W1 at hD1 hP1 ⊢
    have hle : ∀ (k9 : Nat) (x : Nat × va_E), W1[k9]? = some x → x.1 ≤ H.size := fun k9 x hx => by
      rw [← hW1] at hx
      by_cases hl : k9 < (X ++ va_pl L f).length
      · rw [List.getElem?_append_left hl] at hx
        exact Nat.le_of_lt ((hP k9 x hx).lt)
      · rw [List.getElem?_append_right (by omega)] at hx
        have h0 : k9 - (X ++ va_pl L f).length < 1 := (List.getElem?_eq_some_iff.mp hx).1
        rw [show k9 - (X ++ va_pl L f).length = 0 by omega] at hx
        cases hx
        exact Nat.le_refl _
    have hr : ∀ (k9 : Nat) (x : Nat × va_E), (((List.range n.toNatClampNeg).map (fun i => H.size + 1 + i)).map (fun a => ((a, .inl (cy, z)) : Nat × va_E)))[k9]? = some x → x.1 = H.size + 1 + k9 := fun k9 x hx => by
      rw [List.getElem?_map, List.getElem?_map] at hx
      by_cases h9 : k9 < n.toNatClampNeg
      · rw [List.getElem?_range h9] at hx
        cases hx
        rfl
      · have hn0 : (List.range n.toNatClampNeg)[k9]? = none := List.getElem?_eq_none (by rw [List.length_range]; omega)
        rw [hn0] at hx
        cases hx
    refine ⟨fun i j x y hi hj hxy => ?_, fun k9 x hx => ?_⟩
    · by_cases h1 : i < W1.length <;> by_cases h2 : j < W1.length
      · rw [List.getElem?_append_left h1] at hi
        rw [List.getElem?_append_left h2] at hj
        exact hD1.1 i j x y hi hj hxy
      · rw [List.getElem?_append_left h1] at hi
        rw [List.getElem?_append_right (by omega)] at hj
        have := hle _ _ hi
        have := hr _ _ hj
        omega
      · rw [List.getElem?_append_right (by omega)] at hi
        rw [List.getElem?_append_left h2] at hj
        have := hle _ _ hj
        have := hr _ _ hi
        omega
      · rw [List.getElem?_append_right (by omega)] at hi hj
        have := hr _ _ hi
        have := hr _ _ hj
        omega
    · by_cases h1 : k9 < W1.length
      · rw [List.getElem?_append_left h1] at hx
        exact hD1.2 k9 x hx
      · rw [List.getElem?_append_right (by omega)] at hx
        have := hr _ _ hx
        exact hA _ (by have := hS.1; omega)
  have hAr : ArrOfT s cA (.array ty) := fun N9 z9 => by
    obtain ⟨-, k9, hk9, cm9, hkk9⟩ := (hO 0 0 0).1
    exact ⟨(fun q hq => by cases hq), k9, hk9, cm9, hkk9⟩
  have hK2 : va_K D cl (tys ++ [(cA, .array ty)]) s := ⟨hK.1, fun k9 x hx => by
    by_cases hl : k9 < tys.length
    · rw [List.getElem?_append_left hl] at hx
      exact hK.2 k9 x hx
    · rw [List.getElem?_append_right (by omega)] at hx
      have h0 : k9 - tys.length < 1 := (List.getElem?_eq_some_iff.mp hx).1
      rw [show k9 - tys.length = 0 by omega] at hx
      cases hx
      exact ⟨hAr, fA⟩⟩
  obtain ⟨t, a1, b1⟩ := kk H.size (fun i => H.size + 1 + i) cA F.heap (fun i j _ _ h => by have h9 : H.size + 1 + i = H.size + 1 + j := h; omega) hnl hK2 (by rw [← vr_rows hnm]; exact vr_lay hP2) (by rw [← vr_rows hnm]; exact vr_layD hD2) ⟨by rw [f1]; have := hS.1; omega, fun x h1 h2 => (hold x (Nat.lt_of_lt_of_le h1 hS.1)).trans (hS.2.1 x h1 h2), hS.2.2⟩ F rfl X'
  refine ⟨t, step t ?_, b1⟩
  have e : T.heap.size = H.size := by rw [hT]
  rw [e]
  exact a1
end VGM
/-! ===== END ===== -/

/-! ===== BEGIN exceptions that leave a method, and their catching by the caller (launches without stack traces) ===== -/
section VXA
/-! The laws vx_back, vx_callV, vx_callS, vx_callSW, vx_throw0, vx_throwS follow proofs of the library, with one case more: JvmDerived/Free/Laws.lean (Back.of_free), Shelf42/LK1.lean (callV, callS), Shelf/KitTraced.lean (throwNew0V, throwNewS). -/
/-- where a method has thrown q: the class by its name, the cell, what was written, the world -/
def vx_T (XC : String → State → State → Prop) (st : State) (q : Addr) (t : State) (mc ms : Nat) (free : Addr → Prop) : Prop :=
  ∃ (E : String) (ce : Cell) (L : List Loc), XC E st t ∧ t.heap[q]? = some ce ∧ ce.vm = .none ∧ st.vm.findClass E = some ce.cls ∧ st.WarmedH t.vm ∧ st.sameButNew ({ t with vm := st.vm } : State) L mc ms ∧ ∀ z ∈ L, free z.base
def vx_Q (Qc : Array Value → State → Outcome → State → Prop) (XC : String → State → State → Prop) (mc ms : Nat) (free : Addr → Prop) : Array Value → State → Outcome → State → Prop := fun a st o t =>
  (Qc a st o t ∧ ∃ L, FrameEnd st o t L mc ms ∧ ∀ q ∈ L, free q.base) ∨ ∃ q, o = .threw q ∧ vx_T XC st q t mc ms free
/-- a callee that returns or throws -/
def vx_Met (l : Launch) (y : MethodName) (ws : List Cond) (rm : Room) (Pc : Array Value → State → Prop) (Qc : Array Value → State → Outcome → State → Prop) (XC : String → State → State → Prop) (mc ms : Nat) (free : Addr → Prop) : Prop :=
  MetFree l y (headSpec ws rm) Pc (fun _ _ _ _ _ => True) (vx_Q Qc XC mc ms free)
def vx_Post (XC : String → State → State → Prop) (mc ms : Nat) (free : Addr → Prop) : Pt → Array Value → Addr → Pt → Prop := fun A a q B =>
  ∃ (g : JFrame) (mk : MethodId) (t : State) (L : List Loc) (E : String) (ce : Cell), B.U.heap = t.heap ∧ B.U.vm = t.vm ∧ XC E (A.U.calling g mk a) t ∧ t.heap[q]? = some ce ∧ ce.vm = .none ∧ A.U.vm.findClass E = some ce.cls ∧ B.locs = A.locs ++ L ∧ (∀ z ∈ L, free z.base) ∧ B.cells = A.cells + mc ∧ B.slots = A.slots + ms
def vx_Back (l : Launch) (R : Room) (p : Program) (e : Env) (below : List Frame) (s : State) (sargs : Array Value) (y : MethodName) (len W9 : Nat)
    (Pre : Pt → Array Value → Prop) (Post : Pt → Array Value → Option Value → Pt → Prop) (PostX : Pt → Array Value → Addr → Pt → Prop) : Prop :=
  ∀ (m : MethodId) (meth : Method) (c : Code) (A : Pt) (g : JFrame) (ig : Instr) (mk : MethodId) (a : Array Value),
    Stand p l e R s m sargs below meth c A.U A.locs A.cells A.slots → g.method = m → g.locals.size = c.maxLocals → decode c.code g.pc = .ok (ig, len) →
    2 * g.monitorRoom + (g.stack.map fun v => v.category).sum ≤ W9 → A.U.methodNamed? y = some mk → Pre A a →
    (∃ (v : Option Value) (B : Pt), Stand p l e R s m sargs below meth c B.U B.locs B.cells B.slots ∧ Post A a v B ∧
      Steps p.tables e below (doInvoke e (A.U.setTop g) [] mk a).1 (B.U.setTop { g with pc := g.pc + len, stack := v.toList ++ g.stack })) ∨
    (∃ (q : Addr) (B : Pt), Stand p l e R s m sargs below meth c B.U B.locs B.cells B.slots ∧ PostX A a q B ∧
      Steps p.tables e below (doInvoke e (A.U.setTop g) [] mk a).1 ((B.U.setTop g).pushFrame (.throwing q)))
section Payer
variable {l : Launch} {R : Room} {p : Program} {e : Env} {below : List Frame} {s : State} {sargs : Array Value} {y : MethodName} {len W9 : Nat}
theorem vx_back {ws : List Cond} {rm : Room} {Pc : Array Value → State → Prop} {Qc : Array Value → State → Outcome → State → Prop} {XC : String → State → State → Prop} {mc ms : Nat} {free : Addr → Prop} {bytes : ByteArray} {maxL : Nat} {ret : Option FieldType}
    (hM : vx_Met l y ws rm Pc Qc XC mc ms free) (hblind : FrameBlind Pc) (hrc : rm.cells = mc) (hrs : rm.slots = ms)
    (hframes : rm.frames + 1 ≤ R.frames) (hlocals : W9 + (maxL + 11) + rm.locals ≤ R.locals)
    (hws : ∀ w ∈ ws, ∀ a' U, s.WarmedH U.vm → w.before a' U = true) (hcode : Cond.code y bytes maxL ret ∈ ws) (hinit : ∀ a' U, s.WarmedH U.vm → (Cond.initialized y.cls).before a' U = true) :
    vx_Back l R p e below s sargs y len W9 (PreOf R mc ms Pc) (PostOf Qc mc ms free) (vx_Post XC mc ms free) := by
  intro m meth c A g ig mk a X hg hsize hdg hW hn hp
  have h1 : (headSpec ws rm).pre.before a A.U = true := atoms_intro fun w hw => hws w hw _ _ X.warmed
  have h2 : (Cond.code y bytes maxL ret).before a A.U = true := hws _ hcode _ _ X.warmed
  have h3 : (Cond.initialized y.cls).before a A.U = true := hinit _ _ X.warmed
  have h4 : A.cells + (headSpec ws rm).room.cells ≤ R.cells := by rw [show (headSpec ws rm).room.cells = mc from hrc]; exact hp.1
  have h5 : A.slots + (headSpec ws rm).room.slots ≤ R.slots := by rw [show (headSpec ws rm).room.slots = ms from hrs]; exact hp.2.1
  have hPc : Pc a (A.U.calling g mk a) := hblind _ _ _ _ hp.2.2
  obtain ⟨U, Ls, c0, s0⟩ := A
  dsimp only [Pt.U, Pt.locs, Pt.cells, Pt.slots] at h1 h2 h3 h4 h5 X hn hPc ⊢
  obtain ⟨methY, cY, hmY, hcY, -, hlY, -, -, -, -⟩ := Cond.code_spec hn h2
  obtain ⟨kY, hkY, -⟩ := className_of_methodNamed hn
  have hinitY : kY.init = .initialized := Cond.initialized_spec (findClass_of_methodNamed hn) hkY h3
  have h : At U g.method c below := by rw [hg]; exact X.here
  have hlocals9 : W9 + (maxL + 11) + (headSpec ws rm).room.locals ≤ R.locals := hlocals
  have happ : (headSpec ws rm).appliesLoose y e.platform (U.calling g mk a) = true :=
    Spec.appliesLoose_calling (g := g) h hdg hn hkY hinitY
      (X.room_calling (g := g) (R' := (headSpec ws rm).room) hsize hmY hcY hframes (by rw [hlY]; omega) h4 h5) h1
  obtain ⟨mid, hmid⟩ := h.above
  have hfr : (U.setTop g).frames = (.java g :: mid) ++ below := by rw [State.frames_setTop' g h.top, hmid]; rfl
  obtain ⟨o, s₂, hsteps, -, hend, hq⟩ := Steps.callFree hM p X.admits X.cas X.clock (acts := []) hfr happ hPc trivial
  have hq' : vx_Q Qc XC mc ms free a (U.calling g mk a) o s₂ := hq
  rw [State.frames_setTop' g h.top] at hend
  obtain ⟨g₀, hg0⟩ := Option.isSome_iff_exists.mp h.top
  obtain ⟨r, hr⟩ := State.topJava?_eq_some.mp hg0
  have hr' : (({ U with heap := s₂.heap, slotsUsed := s₂.slotsUsed } : State).setVm s₂.vm).frames = .java g₀ :: r := hr
  rcases hq' with ⟨hqc, L, hfe, hL⟩ | ⟨q, rfl, E, ce, L, hx, hce, hcv, hcl, hW₂, hsm, hL⟩
  · obtain ⟨⟨v, rfl⟩, hW₂, e2, q2, q3, q4, q5, q6⟩ := id hfe
    have e3 : s₂ = ({ (U.calling g mk a).setFrames s₂.frames with heap := s₂.heap, slotsUsed := s₂.slotsUsed } : State).setVm s₂.vm := by
      have : s₂ = ({ s₂ with vm := (U.calling g mk a).vm } : State).setVm s₂.vm := rfl
      rw [e2] at this
      exact this
    obtain ⟨c₂, i₂, len₂, hc₂, hd₂, hf₂⟩ := hend
    have hW' : U.WarmedH s₂.vm := hW₂
    have hcc : c₂ = c := by
      have h1 : s₂.code? g.method = U.code? g.method := by
        rw [State.code?_eq, State.code?_eq, hW'.alike.method?]
      exact Option.some.inj (hc₂.symm.trans (h1.trans h.code))
    subst hcc
    have hlen : len₂ = len := by rw [hdg] at hd₂; cases hd₂; rfl
    subst hlen
    have hs₂ : s₂ = (({ U with heap := s₂.heap, slotsUsed := s₂.slotsUsed } : State).setVm s₂.vm).setTop { g with pc := g.pc + len₂, stack := v.toList ++ g.stack } := by
      refine e3.trans ?_
      rw [hf₂, State.calling_eq h.top, State.setFrames_setFrames, State.setTop_of_frames _ hr', hr]
      rfl
    have hsame : U.sameButNew ({ U with heap := s₂.heap, slotsUsed := s₂.slotsUsed } : State) L mc ms := by
      refine ⟨?_, q2, q3, q4, q5, q6⟩
      obtain ⟨t, ht, -⟩ := State.frames_cons hr
      show ({ U with heap := s₂.heap, slotsUsed := s₂.slotsUsed } : State) = { U.setFrames U.frames with heap := s₂.heap, slotsUsed := s₂.slotsUsed }
      rw [State.setFrames_self ht]
    subst hg
    refine Or.inl ⟨v, ⟨(({ U with heap := s₂.heap, slotsUsed := s₂.slotsUsed } : State).setVm s₂.vm), Ls ++ L, c0 + mc, s0 + ms⟩,
      ⟨X.admits, X.cas, X.clock, X.frames, X.room, X.hears, X.method, X.code, (X.here.setHeapUsed s₂.heap s₂.slotsUsed).setVm hW'.alike, X.tail, State.WarmedH.trans X.warmed hW', X.limits, X.bytes, X.same.trans (hsame.setVm s.vm)⟩,
      ⟨g, mk, s₂, L, rfl, rfl, hqc, rfl, hL, rfl, rfl⟩, ?_⟩
    show Steps p.tables e below _ ((({ U with heap := s₂.heap, slotsUsed := s₂.slotsUsed } : State).setVm s₂.vm).setTop { g with pc := g.pc + len₂, stack := v.toList ++ g.stack })
    rw [← hs₂]
    exact hsteps
  · obtain ⟨e2, q2, q3, q4, q5, q6⟩ := id hsm
    have e3 : s₂ = ({ (U.calling g mk a).setFrames s₂.frames with heap := s₂.heap, slotsUsed := s₂.slotsUsed } : State).setVm s₂.vm := by
      have : s₂ = ({ s₂ with vm := (U.calling g mk a).vm } : State).setVm s₂.vm := rfl
      rw [e2] at this
      exact this
    have hf₂ : s₂.frames = .throwing q :: .java g :: U.frames.tail := hend
    have hW' : U.WarmedH s₂.vm := hW₂
    have hs₂ : s₂ = ((({ U with heap := s₂.heap, slotsUsed := s₂.slotsUsed } : State).setVm s₂.vm).setTop g).pushFrame (.throwing q) := by
      refine e3.trans ?_
      rw [hf₂, State.calling_eq h.top, State.setFrames_setFrames, State.pushFrame, State.frames_setTop _ hr', State.setTop_of_frames _ hr', State.setFrames_setFrames, hr]
      rfl
    have hsame : U.sameButNew ({ U with heap := s₂.heap, slotsUsed := s₂.slotsUsed } : State) L mc ms := by
      refine ⟨?_, q2, q3, q4, q5, q6⟩
      obtain ⟨t, ht, -⟩ := State.frames_cons hr
      show ({ U with heap := s₂.heap, slotsUsed := s₂.slotsUsed } : State) = { U.setFrames U.frames with heap := s₂.heap, slotsUsed := s₂.slotsUsed }
      rw [State.setFrames_self ht]
    subst hg
    refine Or.inr ⟨q, ⟨(({ U with heap := s₂.heap, slotsUsed := s₂.slotsUsed } : State).setVm s₂.vm), Ls ++ L, c0 + mc, s0 + ms⟩,
      ⟨X.admits, X.cas, X.clock, X.frames, X.room, X.hears, X.method, X.code, (X.here.setHeapUsed s₂.heap s₂.slotsUsed).setVm hW'.alike, X.tail, State.WarmedH.trans X.warmed hW', X.limits, X.bytes, X.same.trans (hsame.setVm s.vm)⟩,
      ⟨g, mk, s₂, L, E, ce, rfl, rfl, hx, hce, hcv, hcl, rfl, hL, rfl, rfl⟩, ?_⟩
    show Steps p.tables e below _ (((({ U with heap := s₂.heap, slotsUsed := s₂.slotsUsed } : State).setVm s₂.vm).setTop g).pushFrame (.throwing q))
    rw [← hs₂]
    exact hsteps
end Payer
section Calls
variable {p : Program} {l : Launch} {e : Env} {R : Room} {s : State} {m : MethodId} {args : Array Value} {below : List Frame} {meth : Method} {c : Code} {T : State} {locs : List Loc} {cells slots : Nat}
theorem vx_callV (X : Stand p l e R s m args below meth c T locs cells slots) (hexec : p.tables.exec = Jvm.exec) {own C : String} {index : Nat} {y : MethodName} {bytes : ByteArray} {maxL : Nat} {ret : Option FieldType}
    (hown : s.vm.findClass own = some m.cls) (hlink : (Cond.methodLink own index y).before args s = true) (hinst : (Cond.instanceMethod y).before args s = true) (hsel : (Cond.selects C y y).before args s = true)
    (hcode : (Cond.code y bytes maxL ret).before args s = true) (hy : y.cls ≠ "java/lang/invoke/MethodHandle" ∧ y.cls ≠ "java/lang/invoke/VarHandle")
    {W9 : Nat} {Pre : Pt → Array Value → Prop} {Post : Pt → Array Value → Option Value → Pt → Prop} {PostX : Pt → Array Value → Addr → Pt → Prop} (hK : vx_Back l R p e below s args y 3 W9 Pre Post PostX)
    {b : Addr} {cellB : Cell} (hcell : T.heap[b]? = some cellB) (hobj : cellB.vm.isStatics = false) (hcls : s.vm.findClass C = some cellB.cls)
    {g : JFrame} (hg : g.method = m) (hsize : g.locals.size = c.maxLocals) {argsL rest : List Value} (hlen : ∀ sig, parseMethodDescriptor y.desc = some sig → argsL.length = sig.parameters.length)
    (hstack : g.stack = argsL.reverse ++ .ref b :: rest) (hW : 2 * g.monitorRoom + (rest.map fun v => v.category).sum ≤ W9) (hdg : decode c.code g.pc = .ok (.invokevirtual index, 3))
    (hpre : ∀ vm₁, s.WarmedH vm₁ → Pre ⟨T.setVm vm₁, locs, cells, slots⟩ (Value.ref b :: argsL).toArray) :
    (∃ (v : Option Value) (vm₁ : Vm) (B : Pt), s.WarmedH vm₁ ∧ Stand p l e R s m args below meth c B.U B.locs B.cells B.slots ∧ Post ⟨T.setVm vm₁, locs, cells, slots⟩ (Value.ref b :: argsL).toArray v B ∧
      ∀ target, Steps p.tables e below (B.U.setTop { g with pc := g.pc + 3, stack := v.toList ++ rest }) target → Steps p.tables e below (T.setTop g) target) ∨
    (∃ (q : Addr) (vm₁ : Vm) (B : Pt), s.WarmedH vm₁ ∧ Stand p l e R s m args below meth c B.U B.locs B.cells B.slots ∧ PostX ⟨T.setVm vm₁, locs, cells, slots⟩ (Value.ref b :: argsL).toArray q B ∧
      Steps p.tables e below (T.setTop g) ((B.U.setTop { g with stack := rest }).pushFrame (.throwing q))) := by
  obtain ⟨mk, methM, hnamed, hmethM, hstM, habM⟩ := Cond.instanceMethod_spec hinst
  obtain ⟨methM', cM, hmethM', -, -, -, -, -, -, hsigM⟩ := Cond.code_spec hnamed hcode
  cases hmethM.symm.trans hmethM'
  obtain ⟨c2, r2, m2, q1, q2, q3, q4, kP, hkP, hkPi⟩ := Cond.selects_spec hsel
  cases hcls.symm.trans q1
  cases (State.methodFound?_of_named hnamed hy).symm.trans q2
  cases hnamed.symm.trans q3
  have hselP : selectMethod e.platform s.vm cellB.cls mk = .method mk := by rw [Launch.admits_selectMethod X.admits]; exact q4
  obtain ⟨vm₁, X₁, hstep₁⟩ := X.invokevirtual hexec hown hlink hnamed hmethM hstM hkP hkPi hy (a := b) (cell := cellB) hcell
    (fun z h => by rw [h] at hobj; cases hobj) hselP hmethM habM hkP hkPi (g := g) hg (argsL := argsL) (rest := rest) (hlen _ hsigM) hstack hdg
  rcases hK m meth c ⟨T.setVm vm₁, locs, cells, slots⟩ { g with stack := rest } (.invokevirtual index) mk (Value.ref b :: argsL).toArray X₁ hg hsize hdg hW (X₁.named hnamed) (hpre vm₁ X₁.warmed) with ⟨v, B, X', hpost, hsteps⟩ | ⟨q, B, X', hpost, hsteps⟩
  · exact Or.inl ⟨v, vm₁, B, X₁.warmed, X', hpost, fun target h => hstep₁ _ fun acts => by rw [doInvoke_state]; exact hsteps.trans h⟩
  · exact Or.inr ⟨q, vm₁, B, X₁.warmed, X', hpost, hstep₁ _ fun acts => by rw [doInvoke_state]; exact hsteps⟩
theorem vx_callS (X : Stand p l e R s m args below meth c T locs cells slots) (hexec : p.tables.exec = Jvm.exec) {own : String} {index : Nat} {y : MethodName} {bytes : ByteArray} {maxL : Nat} {ret : Option FieldType}
    (hown : s.vm.findClass own = some m.cls) (hlink : (Cond.methodLink own index y).before args s = true) (hstat : (Cond.static y).before args s = true) (hinit : (Cond.initialized y.cls).before args s = true)
    (hcode : (Cond.code y bytes maxL ret).before args s = true) (hy : y.cls ≠ "java/lang/invoke/MethodHandle" ∧ y.cls ≠ "java/lang/invoke/VarHandle")
    {W9 : Nat} {Pre : Pt → Array Value → Prop} {Post : Pt → Array Value → Option Value → Pt → Prop} {PostX : Pt → Array Value → Addr → Pt → Prop} (hK : vx_Back l R p e below s args y 3 W9 Pre Post PostX)
    {g : JFrame} (hg : g.method = m) (hsize : g.locals.size = c.maxLocals) {argsL rest : List Value} (hlen : ∀ sig, parseMethodDescriptor y.desc = some sig → argsL.length = sig.parameters.length)
    (hstack : g.stack = argsL.reverse ++ rest) (hW : 2 * g.monitorRoom + (rest.map fun v => v.category).sum ≤ W9) (hdg : decode c.code g.pc = .ok (.invokestatic index, 3))
    (hpre : ∀ vm₁, s.WarmedH vm₁ → Pre ⟨T.setVm vm₁, locs, cells, slots⟩ argsL.toArray) :
    (∃ (v : Option Value) (vm₁ : Vm) (B : Pt), s.WarmedH vm₁ ∧ Stand p l e R s m args below meth c B.U B.locs B.cells B.slots ∧ Post ⟨T.setVm vm₁, locs, cells, slots⟩ argsL.toArray v B ∧
      ∀ target, Steps p.tables e below (B.U.setTop { g with pc := g.pc + 3, stack := v.toList ++ rest }) target → Steps p.tables e below (T.setTop g) target) ∨
    (∃ (q : Addr) (vm₁ : Vm) (B : Pt), s.WarmedH vm₁ ∧ Stand p l e R s m args below meth c B.U B.locs B.cells B.slots ∧ PostX ⟨T.setVm vm₁, locs, cells, slots⟩ argsL.toArray q B ∧
      Steps p.tables e below (T.setTop g) ((B.U.setTop { g with stack := rest }).pushFrame (.throwing q))) := by
  obtain ⟨mk, hnamed⟩ := Cond.code_named hcode
  obtain ⟨methM, cM, hmethM, -, -, -, -, -, -, hsigM⟩ := Cond.code_spec hnamed hcode
  have hstatic : methM.isStatic = true := Cond.static_spec hnamed hmethM hstat
  obtain ⟨kP, hkP, -⟩ := className_of_methodNamed hnamed
  have hinitP : kP.init = .initialized := Cond.initialized_spec (findClass_of_methodNamed hnamed) hkP hinit
  obtain ⟨vm₁, X₁, hstep₁⟩ := X.invokestatic hexec hown hlink hnamed hmethM hstatic hkP hinitP hy (g := g) hg (argsL := argsL) (rest := rest) (hlen _ hsigM) hstack hdg
  rcases hK m meth c ⟨T.setVm vm₁, locs, cells, slots⟩ { g with stack := rest } (.invokestatic index) mk argsL.toArray X₁ hg hsize hdg hW (X₁.named hnamed) (hpre vm₁ X₁.warmed) with ⟨v, B, X', hpost, hsteps⟩ | ⟨q, B, X', hpost, hsteps⟩
  · exact Or.inl ⟨v, vm₁, B, X₁.warmed, X', hpost, fun target h => hstep₁ _ fun acts => by rw [doInvoke_state]; exact hsteps.trans h⟩
  · exact Or.inr ⟨q, vm₁, B, X₁.warmed, X', hpost, hstep₁ _ fun acts => by rw [doInvoke_state]; exact hsteps⟩
end Calls
theorem vx_cls {s : State} {T : State} {vm₁ : Vm} {E : String} {k : ClassId} (hW : s.WarmedH vm₁) (h : (T.setVm vm₁).vm.findClass E = some k) : s.vm.findClass E = some k := by
  have h1 : vm₁.findClass E = some k := h
  rw [hW.alike.findClass] at h1
  exact h1
/-- the method's frame g, with q thrown over it -/
def vx_W (p : Program) (l : Launch) (e : Env) (R : Room) (s : State) (m : MethodId) (args : Array Value) (below : List Frame) (meth : Method) (c : Code) (H : Heap) (locs : List Loc) (cells slots : Nat) (Q : State → Prop) (g : JFrame) (q : Addr) : Prop :=
  ∀ T : State, T.heap = H → Stand p l e R s m args below meth c T locs cells slots → ∃ t, Steps p.tables e below ((T.setTop g).pushFrame (.throwing q)) t ∧ Q t
def vx_Run (p : Program) (l : Launch) (e : Env) (R : Room) (s : State) (m : MethodId) (args : Array Value) (below : List Frame) (meth : Method) (c : Code) (H : Heap) (locs : List Loc) (cells slots mc ms : Nat) (g : JFrame) (rest : List Value) (Qa : State → Outcome → State → Prop) (XC : String → State → State → Prop) (free : Addr → Prop) : Prop :=
  ∀ T : State, T.heap = H → Stand p l e R s m args below meth c T locs cells slots →
    (∃ (v : Option Value) (st₀ t T' : State) (L : List Loc), st₀.heap = H ∧ Stand p l e R s m args below meth c T' (locs ++ L) (cells + mc) (slots + ms) ∧ (∀ q ∈ L, free q.base) ∧ T'.heap = t.heap ∧ T'.vm = t.vm ∧ Qa st₀ (.returned v) t ∧
      Goes p e below T g T' { g with pc := g.pc + 3, stack := v.toList ++ rest }) ∨
    (∃ (q : Addr) (st₀ t T' : State) (L : List Loc) (E : String) (ce : Cell), st₀.heap = H ∧ Stand p l e R s m args below meth c T' (locs ++ L) (cells + mc) (slots + ms) ∧ (∀ z ∈ L, free z.base) ∧ T'.heap = t.heap ∧ T'.vm = t.vm ∧ XC E st₀ t ∧ t.heap[q]? = some ce ∧ ce.vm = .none ∧ s.vm.findClass E = some ce.cls ∧
      Steps p.tables e below (T.setTop g) ((T'.setTop { g with stack := rest }).pushFrame (.throwing q)))
def vx_X {S : Type} (px : S → Prop) (B : String → S → State → Prop) (A : Nat → Prop) : String → State → State → Prop := fun E st t => ∃ u : S, px u ∧ B E u t ∧ va_F A st t
section Runs
variable {p : Program} {l : Launch} {e : Env} {R : Room} {s : State} {m : MethodId} {args : Array Value} {below : List Frame} {meth : Method} {c : Code} {H : Heap} {locs : List Loc} {cells slots : Nat}
variable {y : MethodName} {bytes cc : ByteArray} {maxL nL mc ms n index : Nat} {ret : Option FieldType} {ws : List Cond} {rm : Room} {Pc : Array Value → State → Prop} {Qc : Array Value → State → Outcome → State → Prop} {XC : String → State → State → Prop} {free : Addr → Prop} {Ts : List Cond} {own C : String} {b : Addr} {As rest : List Value} {g : JFrame}
theorem vx_callBack (cb : CallB R s args own index y bytes maxL ret ws rm mc ms n) (hM : vx_Met l y ws rm Pc Qc XC mc ms free) (hbl : FrameBlind Pc) : vx_Back l R p e below s args y 3 8 (PreOf R mc ms Pc) (PostOf Qc mc ms free) (vx_Post XC mc ms free) := by
  obtain ⟨hrc, hrs, hfr, hlo, hws, hcw, -, hini, -⟩ := cb
  exact vx_back (bytes := bytes) (maxL := maxL) (ret := ret) hM hbl hrc hrs hfr hlo hws hcw (fun a' U hW => word_at hW (Or.inl (by first | rfl | simp [Cond.onTables, Cond.keeps, Cond.steady])) hini)
theorem vx_runV (S : CallFix p m c cc nL s args Ts own) (hM : vx_Met l y ws rm Pc Qc XC mc ms free) (cw : CallW R s args own C index y bytes maxL ret ws rm mc ms n) (hp : PreV s H C b Pc As)
    (hg : g.method = m) (hn : As.length = n) (hsize : g.locals.size = nL) (hstack : g.stack = As.reverse ++ .ref b :: rest) (hW : 2 * g.monitorRoom + (rest.map fun v => v.category).sum ≤ 8) (hdg : decode cc g.pc = .ok (.invokevirtual index, 3)) (hf : cells + mc ≤ R.cells ∧ slots + ms ≤ R.slots) :
    vx_Run p l e R s m args below meth c H locs cells slots mc ms g rest (Qc (Value.ref b :: As).toArray) XC free := by
  have hK : vx_Back l R p e below s args y 3 8 (PreOf R mc ms Pc) (PostOf Qc mc ms free) (vx_Post XC mc ms free) := vx_callBack cw.1 hM hp.1
  obtain ⟨⟨-, -, -, -, -, -, hcode, -, hy, hlen, hl⟩, hin, hse⟩ := cw
  obtain ⟨hx, hb, hml, ho, -⟩ := S
  obtain ⟨-, ⟨cellB, hcB, hoB, hclB⟩, hPc⟩ := hp
  intro T hT X
  rcases vx_callV X hx (C := C) (bytes := bytes) (maxL := maxL) (ret := ret) ho hl hin hse hcode hy hK (by rw [hT]; exact hcB) hoB hclB hg (hsize.trans hml.symm) (argsL := As) (rest := rest) (fun sig h => hn.trans (hlen sig h)) hstack hW (by rw [hb]; exact hdg)
    (fun vm₁ hW₁ => ⟨hf.1, hf.2, hPc (T.setVm vm₁) hT hW₁⟩) with ⟨v, vm₁, ⟨U', l2, c2, s2⟩, hW₁, X', ⟨g', mk, t, L, e1, e2, hq, h1, hL, h2, h3⟩, st⟩ | ⟨q, vm₁, ⟨U', l2, c2, s2⟩, hW₁, X', ⟨g', mk, t, L, E, ce, e1, e2, hq, hce, hcv, hcl, h1, hL, h2, h3⟩, st⟩
  · dsimp only [Pt.U, Pt.locs, Pt.cells, Pt.slots] at X' e1 e2 h1 h2 h3 st
    subst h1; subst h2; subst h3
    exact Or.inl ⟨v, (T.setVm vm₁).calling g' mk (Value.ref b :: As).toArray, t, U', L, hT, X', hL, e1, e2, hq, st⟩
  · dsimp only [Pt.U, Pt.locs, Pt.cells, Pt.slots] at X' e1 e2 h1 h2 h3 st hcl
    subst h1; subst h2; subst h3
    exact Or.inr ⟨q, (T.setVm vm₁).calling g' mk (Value.ref b :: As).toArray, t, U', L, E, ce, hT, X', hL, e1, e2, hq, hce, hcv, vx_cls hW₁ hcl, st⟩
theorem vx_runS (S : CallFix p m c cc nL s args Ts own) (hM : vx_Met l y ws rm Pc Qc XC mc ms free) (cw : CallB R s args own index y bytes maxL ret ws rm mc ms n ∧ (Cond.static y).before args s = true) (hp : PreS s H Pc As)
    (hg : g.method = m) (hn : As.length = n) (hsize : g.locals.size = nL) (hstack : g.stack = As.reverse ++ rest) (hW : 2 * g.monitorRoom + (rest.map fun v => v.category).sum ≤ 8) (hdg : decode cc g.pc = .ok (.invokestatic index, 3)) (hf : cells + mc ≤ R.cells ∧ slots + ms ≤ R.slots) :
    vx_Run p l e R s m args below meth c H locs cells slots mc ms g rest (Qc As.toArray) XC free := by
  have hK : vx_Back l R p e below s args y 3 8 (PreOf R mc ms Pc) (PostOf Qc mc ms free) (vx_Post XC mc ms free) := vx_callBack cw.1 hM hp.1
  obtain ⟨⟨-, -, -, -, -, -, hcode, hini, hy, hlen, hl⟩, hstt⟩ := cw
  obtain ⟨hx, hb, hml, ho, -⟩ := S
  intro T hT X
  rcases vx_callS X hx (bytes := bytes) (maxL := maxL) (ret := ret) ho hl hstt hini hcode hy hK hg (hsize.trans hml.symm) (argsL := As) (rest := rest) (fun sig h => hn.trans (hlen sig h)) hstack hW (by rw [hb]; exact hdg)
    (fun vm₁ hW₁ => ⟨hf.1, hf.2, hp.2 (T.setVm vm₁) hT hW₁⟩) with ⟨v, vm₁, ⟨U', l2, c2, s2⟩, hW₁, X', ⟨g', mk, t, L, e1, e2, hq, h1, hL, h2, h3⟩, st⟩ | ⟨q, vm₁, ⟨U', l2, c2, s2⟩, hW₁, X', ⟨g', mk, t, L, E, ce, e1, e2, hq, hce, hcv, hcl, h1, hL, h2, h3⟩, st⟩
  · dsimp only [Pt.U, Pt.locs, Pt.cells, Pt.slots] at X' e1 e2 h1 h2 h3 st
    subst h1; subst h2; subst h3
    exact Or.inl ⟨v, (T.setVm vm₁).calling g' mk As.toArray, t, U', L, hT, X', hL, e1, e2, hq, st⟩
  · dsimp only [Pt.U, Pt.locs, Pt.cells, Pt.slots] at X' e1 e2 h1 h2 h3 st hcl
    subst h1; subst h2; subst h3
    exact Or.inr ⟨q, (T.setVm vm₁).calling g' mk As.toArray, t, U', L, E, ce, hT, X', hL, e1, e2, hq, hce, hcv, vx_cls hW₁ hcl, st⟩
end Runs
section Rows
variable {p : Program} {l : Launch} {e : Env} {R : Room} {s : State} {m : MethodId} {args : Array Value} {below : List Frame} {meth : Method} {c : Code} {H : Heap} {locs : List Loc} {cells slots : Nat} {Q : State → Prop}
variable {mc ms : Nat} {free : Addr → Prop} {A0 A1 : Nat → Prop} {H0 : Heap} {a : Array Value} {pc : Nat} {ls : Array Slot} {st0 rest : List Value}
theorem vx_keep {st₀ t T' : State} {L : List Loc} (h0 : st₀.heap = H) (e1 : T'.heap = t.heap) (hS : va_S A0 H0 H locs) (hA : ∀ q, q < H.size → A1 q → A0 q) (hf : ∀ q, free q → A0 q) (hL : ∀ q ∈ L, free q.base) (hF : va_F A1 st₀ t) :
    H.size ≤ T'.heap.size ∧ (∀ q : Nat, q < H.size → ¬ A1 q → T'.heap[q]? = H[q]?) ∧ va_S A0 H0 T'.heap (locs ++ L) := by
  obtain ⟨hz, hk⟩ := hF
  rw [h0] at hz hk
  exact ⟨by rw [e1]; exact hz, fun q h1 h2 => by rw [e1]; exact hk q h1 h2,
    ⟨Nat.le_trans hS.1 (by rw [e1]; exact hz), fun q h1 h2 => by rw [e1, hk q (Nat.lt_of_lt_of_le h1 hS.1) (fun z => h2 (hA q (Nat.lt_of_lt_of_le h1 hS.1) z))]; exact hS.2.1 q h1 h2, fun q hq => by
      rcases List.mem_append.mp hq with h | h
      · exact hS.2.2 q h
      · exact hf _ (hL q h)⟩⟩
theorem vx_calli {S SX : Type} {post : Int32 → S → Prop} {px : SX → Prop} {B : S → State → Prop} {BX : String → SX → State → Prop} {AX : Nat → Prop} (hr : vx_Run p l e R s m args below meth c H locs cells slots mc ms (F0 m pc ls st0) rest (va_Qi post B A1 a) (vx_X px BX AX) free) (hS : va_S A0 H0 H locs) (hA : ∀ q, q < H.size → A1 q → A0 q) (hf : ∀ q, free q → A0 q) (hAX : ∀ q, q < H.size → AX q → A0 q)
    (kx : ∀ (E : String) (ce : Cell) (q9 : Addr) (u : SX) (t : State) (H1 : Heap) (locs1 : List Loc), t.heap = H1 → s.vm.Alike t.vm → px u → BX E u t → H.size ≤ H1.size → (∀ q : Nat, q < H.size → ¬ AX q → H1[q]? = H[q]?) → va_S A0 H0 H1 locs1 → H1[q9]? = some ce → ce.vm = .none → s.vm.findClass E = some ce.cls → vx_W p l e R s m args below meth c H1 locs1 (cells + mc) (slots + ms) Q (F0 m pc ls rest) q9)
    (kk : ∀ (r : Int32) (u : S) (t : State) (H1 : Heap) (locs1 : List Loc), t.heap = H1 → s.vm.Alike t.vm → post r u → B u t → H.size ≤ H1.size → (∀ q : Nat, q < H.size → ¬ A1 q → H1[q]? = H[q]?) → va_S A0 H0 H1 locs1 → W p l e R s m args below meth c H1 locs1 (cells + mc) (slots + ms) Q (F0 m (pc + 3) ls (.int r :: rest))) : W p l e R s m args below meth c H locs cells slots Q (F0 m pc ls st0) := by
  intro T hT X
  rcases hr T hT X with ⟨v, st₀, t, T', L, h0, X', hL, e1, e2, ⟨⟨r, u, hv, hp, hb⟩, hF⟩, st⟩ | ⟨q, st₀, t, T', L, E, ce, h0, X', hL, e1, e2, ⟨u, hp, hb, hF⟩, hce, hcv, hcl, st⟩
  · cases hv
    obtain ⟨k1, k2, k3⟩ := vx_keep h0 e1 hS hA hf hL hF
    obtain ⟨t2, a1, b1⟩ := kk r u t T'.heap (locs ++ L) e1.symm (by rw [← e2]; exact X'.warmed.alike) hp hb k1 k2 k3 T' rfl X'
    exact ⟨t2, st t2 a1, b1⟩
  · obtain ⟨k1, k2, k3⟩ := vx_keep h0 e1 hS hAX hf hL hF
    obtain ⟨t2, a1, b1⟩ := kx E ce q u t T'.heap (locs ++ L) e1.symm (by rw [← e2]; exact X'.warmed.alike) hp hb k1 k2 k3 (by rw [e1]; exact hce) hcv hcl T' rfl X'
    exact ⟨t2, st.trans a1, b1⟩
theorem vx_calll {S SX : Type} {post : Int64 → S → Prop} {px : SX → Prop} {B : S → State → Prop} {BX : String → SX → State → Prop} {AX : Nat → Prop} (hr : vx_Run p l e R s m args below meth c H locs cells slots mc ms (F0 m pc ls st0) rest (va_Ql post B A1 a) (vx_X px BX AX) free) (hS : va_S A0 H0 H locs) (hA : ∀ q, q < H.size → A1 q → A0 q) (hf : ∀ q, free q → A0 q) (hAX : ∀ q, q < H.size → AX q → A0 q)
    (kx : ∀ (E : String) (ce : Cell) (q9 : Addr) (u : SX) (t : State) (H1 : Heap) (locs1 : List Loc), t.heap = H1 → s.vm.Alike t.vm → px u → BX E u t → H.size ≤ H1.size → (∀ q : Nat, q < H.size → ¬ AX q → H1[q]? = H[q]?) → va_S A0 H0 H1 locs1 → H1[q9]? = some ce → ce.vm = .none → s.vm.findClass E = some ce.cls → vx_W p l e R s m args below meth c H1 locs1 (cells + mc) (slots + ms) Q (F0 m pc ls rest) q9)
    (kk : ∀ (r : Int64) (u : S) (t : State) (H1 : Heap) (locs1 : List Loc), t.heap = H1 → s.vm.Alike t.vm → post r u → B u t → H.size ≤ H1.size → (∀ q : Nat, q < H.size → ¬ A1 q → H1[q]? = H[q]?) → va_S A0 H0 H1 locs1 → W p l e R s m args below meth c H1 locs1 (cells + mc) (slots + ms) Q (F0 m (pc + 3) ls (.long r :: rest))) : W p l e R s m args below meth c H locs cells slots Q (F0 m pc ls st0) := by
  intro T hT X
  rcases hr T hT X with ⟨v, st₀, t, T', L, h0, X', hL, e1, e2, ⟨⟨r, u, hv, hp, hb⟩, hF⟩, st⟩ | ⟨q, st₀, t, T', L, E, ce, h0, X', hL, e1, e2, ⟨u, hp, hb, hF⟩, hce, hcv, hcl, st⟩
  · cases hv
    obtain ⟨k1, k2, k3⟩ := vx_keep h0 e1 hS hA hf hL hF
    obtain ⟨t2, a1, b1⟩ := kk r u t T'.heap (locs ++ L) e1.symm (by rw [← e2]; exact X'.warmed.alike) hp hb k1 k2 k3 T' rfl X'
    exact ⟨t2, st t2 a1, b1⟩
  · obtain ⟨k1, k2, k3⟩ := vx_keep h0 e1 hS hAX hf hL hF
    obtain ⟨t2, a1, b1⟩ := kx E ce q u t T'.heap (locs ++ L) e1.symm (by rw [← e2]; exact X'.warmed.alike) hp hb k1 k2 k3 (by rw [e1]; exact hce) hcv hcl T' rfl X'
    exact ⟨t2, st.trans a1, b1⟩
theorem vx_callf {S SX : Type} {post : UInt32 → S → Prop} {px : SX → Prop} {B : S → State → Prop} {BX : String → SX → State → Prop} {AX : Nat → Prop} (hr : vx_Run p l e R s m args below meth c H locs cells slots mc ms (F0 m pc ls st0) rest (va_Qf post B A1 a) (vx_X px BX AX) free) (hS : va_S A0 H0 H locs) (hA : ∀ q, q < H.size → A1 q → A0 q) (hf : ∀ q, free q → A0 q) (hAX : ∀ q, q < H.size → AX q → A0 q)
    (kx : ∀ (E : String) (ce : Cell) (q9 : Addr) (u : SX) (t : State) (H1 : Heap) (locs1 : List Loc), t.heap = H1 → s.vm.Alike t.vm → px u → BX E u t → H.size ≤ H1.size → (∀ q : Nat, q < H.size → ¬ AX q → H1[q]? = H[q]?) → va_S A0 H0 H1 locs1 → H1[q9]? = some ce → ce.vm = .none → s.vm.findClass E = some ce.cls → vx_W p l e R s m args below meth c H1 locs1 (cells + mc) (slots + ms) Q (F0 m pc ls rest) q9)
    (kk : ∀ (r : UInt32) (u : S) (t : State) (H1 : Heap) (locs1 : List Loc), t.heap = H1 → s.vm.Alike t.vm → post r u → B u t → H.size ≤ H1.size → (∀ q : Nat, q < H.size → ¬ A1 q → H1[q]? = H[q]?) → va_S A0 H0 H1 locs1 → W p l e R s m args below meth c H1 locs1 (cells + mc) (slots + ms) Q (F0 m (pc + 3) ls (.float r :: rest))) : W p l e R s m args below meth c H locs cells slots Q (F0 m pc ls st0) := by
  intro T hT X
  rcases hr T hT X with ⟨v, st₀, t, T', L, h0, X', hL, e1, e2, ⟨⟨r, u, hv, hp, hb⟩, hF⟩, st⟩ | ⟨q, st₀, t, T', L, E, ce, h0, X', hL, e1, e2, ⟨u, hp, hb, hF⟩, hce, hcv, hcl, st⟩
  · cases hv
    obtain ⟨k1, k2, k3⟩ := vx_keep h0 e1 hS hA hf hL hF
    obtain ⟨t2, a1, b1⟩ := kk r u t T'.heap (locs ++ L) e1.symm (by rw [← e2]; exact X'.warmed.alike) hp hb k1 k2 k3 T' rfl X'
    exact ⟨t2, st t2 a1, b1⟩
  · obtain ⟨k1, k2, k3⟩ := vx_keep h0 e1 hS hAX hf hL hF
    obtain ⟨t2, a1, b1⟩ := kx E ce q u t T'.heap (locs ++ L) e1.symm (by rw [← e2]; exact X'.warmed.alike) hp hb k1 k2 k3 (by rw [e1]; exact hce) hcv hcl T' rfl X'
    exact ⟨t2, st.trans a1, b1⟩
theorem vx_calld {S SX : Type} {post : UInt64 → S → Prop} {px : SX → Prop} {B : S → State → Prop} {BX : String → SX → State → Prop} {AX : Nat → Prop} (hr : vx_Run p l e R s m args below meth c H locs cells slots mc ms (F0 m pc ls st0) rest (va_Qd post B A1 a) (vx_X px BX AX) free) (hS : va_S A0 H0 H locs) (hA : ∀ q, q < H.size → A1 q → A0 q) (hf : ∀ q, free q → A0 q) (hAX : ∀ q, q < H.size → AX q → A0 q)
    (kx : ∀ (E : String) (ce : Cell) (q9 : Addr) (u : SX) (t : State) (H1 : Heap) (locs1 : List Loc), t.heap = H1 → s.vm.Alike t.vm → px u → BX E u t → H.size ≤ H1.size → (∀ q : Nat, q < H.size → ¬ AX q → H1[q]? = H[q]?) → va_S A0 H0 H1 locs1 → H1[q9]? = some ce → ce.vm = .none → s.vm.findClass E = some ce.cls → vx_W p l e R s m args below meth c H1 locs1 (cells + mc) (slots + ms) Q (F0 m pc ls rest) q9)
    (kk : ∀ (r : UInt64) (u : S) (t : State) (H1 : Heap) (locs1 : List Loc), t.heap = H1 → s.vm.Alike t.vm → post r u → B u t → H.size ≤ H1.size → (∀ q : Nat, q < H.size → ¬ A1 q → H1[q]? = H[q]?) → va_S A0 H0 H1 locs1 → W p l e R s m args below meth c H1 locs1 (cells + mc) (slots + ms) Q (F0 m (pc + 3) ls (.double r :: rest))) : W p l e R s m args below meth c H locs cells slots Q (F0 m pc ls st0) := by
  intro T hT X
  rcases hr T hT X with ⟨v, st₀, t, T', L, h0, X', hL, e1, e2, ⟨⟨r, u, hv, hp, hb⟩, hF⟩, st⟩ | ⟨q, st₀, t, T', L, E, ce, h0, X', hL, e1, e2, ⟨u, hp, hb, hF⟩, hce, hcv, hcl, st⟩
  · cases hv
    obtain ⟨k1, k2, k3⟩ := vx_keep h0 e1 hS hA hf hL hF
    obtain ⟨t2, a1, b1⟩ := kk r u t T'.heap (locs ++ L) e1.symm (by rw [← e2]; exact X'.warmed.alike) hp hb k1 k2 k3 T' rfl X'
    exact ⟨t2, st t2 a1, b1⟩
  · obtain ⟨k1, k2, k3⟩ := vx_keep h0 e1 hS hAX hf hL hF
    obtain ⟨t2, a1, b1⟩ := kx E ce q u t T'.heap (locs ++ L) e1.symm (by rw [← e2]; exact X'.warmed.alike) hp hb k1 k2 k3 (by rw [e1]; exact hce) hcv hcl T' rfl X'
    exact ⟨t2, st.trans a1, b1⟩
theorem vx_callv {S SX : Type} {post : S → Prop} {px : SX → Prop} {B : S → State → Prop} {BX : String → SX → State → Prop} {AX : Nat → Prop} (hr : vx_Run p l e R s m args below meth c H locs cells slots mc ms (F0 m pc ls st0) rest (va_Qv post B A1 a) (vx_X px BX AX) free) (hS : va_S A0 H0 H locs) (hA : ∀ q, q < H.size → A1 q → A0 q) (hf : ∀ q, free q → A0 q) (hAX : ∀ q, q < H.size → AX q → A0 q)
    (kx : ∀ (E : String) (ce : Cell) (q9 : Addr) (u : SX) (t : State) (H1 : Heap) (locs1 : List Loc), t.heap = H1 → s.vm.Alike t.vm → px u → BX E u t → H.size ≤ H1.size → (∀ q : Nat, q < H.size → ¬ AX q → H1[q]? = H[q]?) → va_S A0 H0 H1 locs1 → H1[q9]? = some ce → ce.vm = .none → s.vm.findClass E = some ce.cls → vx_W p l e R s m args below meth c H1 locs1 (cells + mc) (slots + ms) Q (F0 m pc ls rest) q9)
    (kk : ∀ (u : S) (t : State) (H1 : Heap) (locs1 : List Loc), t.heap = H1 → s.vm.Alike t.vm → post u → B u t → H.size ≤ H1.size → (∀ q : Nat, q < H.size → ¬ A1 q → H1[q]? = H[q]?) → va_S A0 H0 H1 locs1 → W p l e R s m args below meth c H1 locs1 (cells + mc) (slots + ms) Q (F0 m (pc + 3) ls (rest))) : W p l e R s m args below meth c H locs cells slots Q (F0 m pc ls st0) := by
  intro T hT X
  rcases hr T hT X with ⟨v, st₀, t, T', L, h0, X', hL, e1, e2, ⟨⟨u, hv, hp, hb⟩, hF⟩, st⟩ | ⟨q, st₀, t, T', L, E, ce, h0, X', hL, e1, e2, ⟨u, hp, hb, hF⟩, hce, hcv, hcl, st⟩
  · cases hv
    obtain ⟨k1, k2, k3⟩ := vx_keep h0 e1 hS hA hf hL hF
    obtain ⟨t2, a1, b1⟩ := kk u t T'.heap (locs ++ L) e1.symm (by rw [← e2]; exact X'.warmed.alike) hp hb k1 k2 k3 T' rfl X'
    exact ⟨t2, st t2 a1, b1⟩
  · obtain ⟨k1, k2, k3⟩ := vx_keep h0 e1 hS hAX hf hL hF
    obtain ⟨t2, a1, b1⟩ := kx E ce q u t T'.heap (locs ++ L) e1.symm (by rw [← e2]; exact X'.warmed.alike) hp hb k1 k2 k3 (by rw [e1]; exact hce) hcv hcl T' rfl X'
    exact ⟨t2, st.trans a1, b1⟩
/-- caught by the row x of this method's table; the rows ahead don't take it -/
theorem vx_catch {own name : String} {E : String} {ce : Cell} {q : Addr} (hown : s.vm.findClass own = some m.cls) (pre : List ExceptionTableEntry) (x : ExceptionTableEntry) (suf : List ExceptionTableEntry) (hsplit : c.exceptionTable.toList = pre ++ x :: suf)
    (hpass : ∀ z ∈ pre, covers z pc = false ∨ (z.catchType ≠ 0 ∧ ∃ nm : String, (Cond.classLink own z.catchType nm).before args s = true ∧ va_Nc E nm s)) (hx : covers x pc = true) (h0 : x.catchType ≠ 0)
    (hlink : (Cond.classLink own x.catchType name).before args s = true) (hcast : (Cond.castable E name).before args s = true) (hcell : H[q]? = some ce) (hv : ce.vm = .none) (hcl : s.vm.findClass E = some ce.cls)
    (kk : W p l e R s m args below meth c H locs cells slots Q (F0 m x.handlerPc ls [.ref q])) : vx_W p l e R s m args below meth c H locs cells slots Q (F0 m pc ls rest) q := by
  intro T hT X
  have hpl : e.platform.magicAccessors = ({} : Platform).magicAccessors := by rw [X.admits.platform]
  obtain ⟨c3, c4, hc3, hc4, hasg⟩ := Cond.castable_spec hcast
  cases Option.some.inj (hc3.symm.trans hcl)
  obtain ⟨c5, hc5, hcl5⟩ := Cond.classLink_spec hown hlink e.platform hpl
  cases Option.some.inj (hc4.symm.trans hc5)
  obtain ⟨vm', X', st⟩ := X.thenCaughtThrough q (g := F0 m pc ls rest) rfl (Steps.refl _) (by rw [hT]; exact hcell) (by rw [hv]; rfl) (by obtain ⟨k9, h9, -⟩ := Vm.findClass_spec hcl; exact ⟨k9, h9⟩) pre x suf hsplit
    (fun z hz => by
      rcases hpass z hz with h | ⟨hz0, nm, hl1, hn1⟩
      · exact Or.inl h
      · obtain ⟨c6, hc6, hcl6⟩ := Cond.classLink_spec hown hl1 e.platform hpl
        obtain ⟨a8, b8, h1, h2, h3⟩ := hn1
        cases Option.some.inj (h1.symm.trans hcl)
        cases Option.some.inj (h2.symm.trans hc6)
        exact Or.inr ⟨hz0, _, hcl6, h3⟩) hx (Or.inr ⟨h0, c4, hcl5, hasg⟩)
  obtain ⟨t, a1, b1⟩ := kk (T.setVm vm') hT X'
  exact ⟨t, st.trans a1, b1⟩
end Rows
section Ends
variable {p : Program} {l : Launch} {e : Env} {R : Room} {s : State} {m : MethodId} {args : Array Value} {below : List Frame} {meth : Method} {c : Code} {H : Heap} {locs : List Loc} {cells slots : Nat} {Q : State → Prop}
variable {mc ms : Nat} {free : Addr → Prop} {A0 A1 : Nat → Prop} {H0 : Heap} {a : Array Value} {ls : Array Slot} {st0 rest : List Value}
variable {Qc : Array Value → State → Outcome → State → Prop} {XC : String → State → State → Prop}
/-- what a body that may throw owes at its end -/
def vx_MQ (below : List Frame) (Qc : Array Value → State → Outcome → State → Prop) (XC : String → State → State → Prop) (a : Array Value) (s : State) (mc ms : Nat) (free : Addr → Prop) : State → Prop := fun t =>
  ∃ o, t.status = .running ∧ Ended t below o ∧ vx_Q Qc XC mc ms free a s o t
theorem vx_ret {g : JFrame} {mc ms : Nat} (k : W p l e R s m args below meth c H locs cells slots (MQ below Qc args s mc ms free) g) : W p l e R s m args below meth c H locs cells slots (vx_MQ below Qc XC args s mc ms free) g := by
  intro T hT X
  obtain ⟨t, a1, o, b1, b2, b3, b4⟩ := k T hT X
  exact ⟨t, a1, o, b1, b2, Or.inl ⟨b3, b4⟩⟩
/-- not caught here: it goes on to the caller -/
theorem vx_widen {g : JFrame} {q : Addr} {k n : Nat} (h1 : cells ≤ k) (h2 : slots ≤ n) (kk : vx_W p l e R s m args below meth c H locs k n Q g q) : vx_W p l e R s m args below meth c H locs cells slots Q g q := fun T hT X => kk T hT (stand_widen X h1 h2)
theorem vx_out {pc : Nat} {E : String} {ce : Cell} {q : Addr} {mc ms : Nat} (hout : ∀ x ∈ c.exceptionTable.toList, covers x pc = false) (hlocks : meth.locks = false) (hcell : H[q]? = some ce) (hv : ce.vm = .none) (hcl : s.vm.findClass E = some ce.cls)
    (hx : ∀ t : State, t.heap = H → s.vm.Alike t.vm → XC E s t) (hf : ∀ z ∈ locs, free z.base) (hc : cells ≤ mc) (hs : slots ≤ ms) :
    vx_W p l e R s m args below meth c H locs cells slots (vx_MQ below Qc XC args s mc ms free) (F0 m pc ls rest) q := by
  intro T hT X
  obtain ⟨st1, hrun, hend, hW, hsm⟩ := X.leaveThrown q (g := F0 m pc ls rest) rfl rfl rfl hout hlocks
  have hcell9 : (T.setFrames (.throwing q :: below)).heap[q]? = some ce := by
    show T.heap[q]? = some ce
    rw [hT]; exact hcell
  exact ⟨_, st1, .threw q, hrun, hend, Or.inr ⟨q, rfl, E, ce, locs, hx _ hT hW.alike, hcell9, hv, hcl, hW, hsm.mono hc hs, hf⟩⟩
theorem vx_frame {U : State} {k n : Nat} (h : s.sameButNew ({ U with vm := s.vm } : State) locs k n) : s.heap.size ≤ U.heap.size ∧ ∀ q : Nat, q < s.heap.size → (∀ z ∈ locs, z.base ≠ q) → U.heap[q]? = s.heap[q]? := by
  obtain ⟨-, h2, -, -, -, h6⟩ := h
  refine ⟨h2, fun q hq hz => ?_⟩
  obtain ⟨c9, e1, e2, e3, e4⟩ := h6 q _ (Array.getElem?_eq_getElem hq)
  have hs : c9.slots = (s.heap[q]).slots := Array.ext_getElem? fun i => e4 i fun hm => hz _ hm rfl
  have h9 : c9 = s.heap[q] := by
    rw [hs] at e2
    exact e2
  have e5 : U.heap[q]? = some c9 := e1
  rw [e5, h9, Array.getElem?_eq_getElem hq]
/-- the words of a throw but the four that speak of the heap -/
def vx_no (w : Cond) : Bool := decide (w ≠ .isRef (.static Bundle.tN "UNASSIGNED_STACK" Bundle.steD)) && decide (w ≠ .isRef (.static Bundle.tN "SUPPRESSED_SENTINEL" Bundle.listD)) && decide (w ≠ .laysStatic Bundle.tN "UNASSIGNED_STACK" Bundle.steD) && decide (w ≠ .laysStatic Bundle.tN "SUPPRESSED_SENTINEL" Bundle.listD)
def vx_at0 (own : String) (ic : Nat) (X : String) (names : List String) : List Cond := (Bundle.ownAtoms0 own ic X names).filter vx_no
def vx_atS (own : String) (ic : Nat) (X : String) (names : List String) : List Cond := (Bundle.ownAtoms own ic X names).filter vx_no
/-- a word that the tables alone decide, or a good one -/
def vx_ot (w : Cond) : Bool := w.onTables || goodWord w
theorem vx_ot_at {args a' : Array Value} {s U : State} {w : Cond} (hW : s.WarmedH U.vm) (hvm : s.vm = U.vm) (hg : vx_ot w = true) (h : w.before args s = true) : w.before a' U = true := by
  simp only [vx_ot, Bool.or_eq_true] at hg
  rcases hg with hg | hg
  · exact va_tabs hg hvm h
  · exact word_at hW (good_of_word hg) h
/-- a list's words: the good ones out of the method's own list, the others by premises of their own -/
theorem vx_hat {args : Array Value} {s : State} {L B : List Cond} (h1 : ∀ w ∈ L.filter goodWord, w.before args s = true) (h2 : ∀ w ∈ L.filter (fun w => !goodWord w), w ∈ B) (h3 : ∀ w ∈ B, w.before args s = true) : ∀ w ∈ L, w.before args s = true := by
  intro w hw
  by_cases g : goodWord w = true
  · exact h1 w (List.mem_filter.mpr ⟨hw, g⟩)
  · refine h3 w (h2 w (List.mem_filter.mpr ⟨hw, ?_⟩))
    show (!goodWord w) = true
    cases hgw : goodWord w
    · rfl
    · exact absurd hgw g
theorem vx_c {args : Array Value} {s : State} {w : Cond} {B : List Cond} (h : w.before args s = true) (t : ∀ w ∈ B, w.before args s = true) : ∀ w' ∈ w :: B, w'.before args s = true := fun w' h' => (List.mem_cons.mp h').elim (fun e => by rw [e]; exact h) (t w')
theorem vx_n {args : Array Value} {s : State} : ∀ w ∈ ([] : List Cond), w.before args s = true := fun _ h => nomatch h
theorem vx_own {args : Array Value} {s : State} {L : List Cond} (h1 : ∀ w ∈ L.filter vx_no, w.before args s = true)
    (hU : (Cond.isRef (.static Bundle.tN "UNASSIGNED_STACK" Bundle.steD)).before args s = true) (hN : (Cond.isRef (.static Bundle.tN "SUPPRESSED_SENTINEL" Bundle.listD)).before args s = true)
    (lU : (Cond.laysStatic Bundle.tN "UNASSIGNED_STACK" Bundle.steD).before args s = true) (lN : (Cond.laysStatic Bundle.tN "SUPPRESSED_SENTINEL" Bundle.listD).before args s = true) : ∀ w ∈ L, w.before args s = true := by
  intro w hw
  by_cases e1 : w = .isRef (.static Bundle.tN "UNASSIGNED_STACK" Bundle.steD)
  · rw [e1]; exact hU
  · by_cases e2 : w = .isRef (.static Bundle.tN "SUPPRESSED_SENTINEL" Bundle.listD)
    · rw [e2]; exact hN
    · by_cases e3 : w = .laysStatic Bundle.tN "UNASSIGNED_STACK" Bundle.steD
      · rw [e3]; exact lU
      · by_cases e4 : w = .laysStatic Bundle.tN "SUPPRESSED_SENTINEL" Bundle.listD
        · rw [e4]; exact lN
        · exact h1 w (List.mem_filter.mpr ⟨hw, by unfold vx_no; rw [decide_eq_true e1, decide_eq_true e2, decide_eq_true e3, decide_eq_true e4]; rfl⟩)
/-- where a static field lies, its class's statics cell in H -/
def vx_L (C n d : String) (A : Nat → Prop) (U : State) (H : Heap) : Prop := ∃ (c : ClassId) (k : Class) (i : Nat) (f : Field) (a : Nat) (cell : Cell), U.vm.findClass C = some c ∧ U.fieldFound? C n d = some (c, k, i, f) ∧ f.isStatic = true ∧ k.statics = some a ∧ H[a]? = some cell ∧ cell.vm.isStatics = true ∧ cell.cls = c ∧ f.slot < cell.slots.size ∧ k.staticTypes[f.slot]? = some f.type ∧ ¬ A a
theorem vx_L.moved {C n d : String} {A : Nat → Prop} {u U : State} {H : Heap} (hvm : u.vm.Alike U.vm) (h : vx_L C n d A u H) : vx_L C n d A U H := by
  obtain ⟨c, k, i, f, a, cell, h1, h2, h3, h4, h5, h6, h7, h8, h9, h10⟩ := h
  obtain ⟨k', hi', he⟩ := State.fieldFound?_setVm hvm h2
  exact ⟨c, k', i, f, a, cell, by rw [hvm.findClass]; exact h1, hi', h3, by rw [he]; exact h4, h5, h6, h7, h8, by rw [he]; exact h9, h10⟩
theorem vx_L.kept {C n d : String} {A : Nat → Prop} {U : State} {H H1 : Heap} (h : vx_L C n d A U H) (hq : ∀ a : Nat, a < H.size → ¬ A a → H1[a]? = H[a]?) : vx_L C n d A U H1 := by
  obtain ⟨c, k, i, f, a, cell, h1, h2, h3, h4, h5, h6, h7, h8, h9, h10⟩ := h
  exact ⟨c, k, i, f, a, cell, h1, h2, h3, h4, by rw [hq a (Array.getElem?_eq_some_iff.mp h5).1 h10]; exact h5, h6, h7, h8, h9, h10⟩
theorem vx_L.narrow {C n d : String} {A B : Nat → Prop} {U : State} {H : Heap} (h : vx_L C n d A U H) (hAB : ∀ q, B q → A q) : vx_L C n d B U H := by
  obtain ⟨c, k, i, f, a, cell, h1, h2, h3, h4, h5, h6, h7, h8, h9, h10⟩ := h
  exact ⟨c, k, i, f, a, cell, h1, h2, h3, h4, h5, h6, h7, h8, h9, fun z => h10 (hAB _ z)⟩
theorem vx_L.word {C n d : String} {A : Nat → Prop} {s : State} {args : Array Value} (h : vx_L C n d A s s.heap) : (Cond.laysStatic C n d).before args s = true := by
  obtain ⟨c, k, i, f, a, cell, h1, h2, h3, h4, h5, h6, h7, h8, h9, -⟩ := h
  show (Cond.laysStatic C n d).holds args s none s [] = true
  exact Cond.laysStatic_of h1 h2 h3 h4 h5 h6 h7 h8 h9
/-- .. and what it holds: null or some reference -/
def vx_Zq (C n d : String) (A : Nat → Prop) (U : State) (H : Heap) : Prop := va_Zq C n d A U H ∧ vx_L C n d A U H
theorem vx_Zq.moved {C n d : String} {A : Nat → Prop} {u U : State} {H : Heap} (hvm : u.vm.Alike U.vm) (h : vx_Zq C n d A u H) : vx_Zq C n d A U H := ⟨va_Zq.moved hvm h.1, vx_L.moved hvm h.2⟩
theorem vx_Zq.kept {C n d : String} {A : Nat → Prop} {U : State} {H H1 : Heap} (h : vx_Zq C n d A U H) (hq : ∀ a : Nat, a < H.size → ¬ A a → H1[a]? = H[a]?) : vx_Zq C n d A U H1 := ⟨va_Zq.kept h.1 hq, vx_L.kept h.2 hq⟩
theorem vx_Zq.narrow {C n d : String} {A B : Nat → Prop} {U : State} {H : Heap} (h : vx_Zq C n d A U H) (hAB : ∀ q, B q → A q) : vx_Zq C n d B U H := ⟨va_Zq.narrow h.1 hAB, vx_L.narrow h.2 hAB⟩
theorem vx_Zqof {args : Array Value} {s : State} {C n d : String} {A : Nat → Prop} (hl : (Cond.laysStatic C n d).before args s = true) (hini : (Cond.initialized C).before args s = true) (h : (Cond.isRef (.static C n d)).before args s = true) (hA : ∀ a : Nat, a < s.heap.size → ¬ A a) : vx_Zq C n d A s s.heap := by
  refine ⟨va_Zqof hl hini h hA, ?_⟩
  obtain ⟨c, k, i, f, a, cell, h1, h2, h3, h4, h5, h6, h7, h8, h9⟩ := Cond.laysStatic_spec hl
  exact ⟨c, k, i, f, a, cell, h1, h2, h3, h4, h5, h6, h7, h8, h9, hA a (Array.getElem?_eq_some_iff.mp h5).1⟩
theorem vx_isRef {C n d : String} {v : Value} {A : Nat → Prop} {s : State} {args : Array Value} (h : va_Z C n d v A s s.heap) (hv : v.isRef = true) : (Cond.isRef (.static C n d)).before args s = true := by
  obtain ⟨cf, kf, fi, f, a, cell, h1, h2, h3, h4, h5, h6, h7, -⟩ := h
  have he : (Term.static C n d).eval args s none [] s = some v := by
    simp [Term.eval, State.fieldNamed?, h1, h2, h4, h5, h6, h7]
  simp only [Cond.before, Cond.holds, Cond.value, he]
  cases v <;> simp_all [Value.isRef]
theorem vx_isRefq {C n d : String} {A : Nat → Prop} {s : State} {args : Array Value} (h : va_Zq C n d A s s.heap) : (Cond.isRef (.static C n d)).before args s = true := by
  rcases h with h | ⟨t, h⟩
  · exact vx_isRef h rfl
  · exact vx_isRef h rfl
/-- the same frame, seen from here: as if the method were called anew in this heap -/
theorem vx_rebase {T : State} (X : Stand p l e R s m args below meth c T locs cells slots) {R' : Room} (hf : R'.frames ≤ R.frames) (hl : R'.locals ≤ R.locals) (hc : cells + R'.cells ≤ R.cells) (hs : slots + R'.slots ≤ R.slots) :
    Stand p l e R' ((T.setVm s.vm).setFrames (.invoking m args :: below)) m args below meth c T [] 0 0 := by
  have htop : (T.setVm s.vm).topJava?.isSome := X.here.top
  have hF : ((T.setVm s.vm).setFrames (.invoking m args :: below)).frames = .invoking m args :: below := State.frames_setFrames _ (State.cur_lt_of_top htop)
  obtain ⟨g₀, hg0⟩ := Option.isSome_iff_exists.mp htop
  obtain ⟨r, hr⟩ := State.topJava?_eq_some.mp hg0
  have hl9 : e.platform.stackLimits (T.setVm s.vm).me = e.platform.stackLimits s.me := X.limits
  have hb9 : (T.setVm s.vm).me.stackBytes = s.me.stackBytes := X.bytes
  refine ⟨X.admits, X.cas, X.clock, hF, ?_, X.hears, X.method, X.code, X.here, X.tail, X.warmed, ?_, ?_, ?_⟩
  · have h := X.room
    have hU : ((T.setVm s.vm).setFrames (.invoking m args :: below)).localsInUse = s.localsInUse := by
      rw [State.localsInUse_invoking hF (meth := meth) (c := c) X.method X.code, State.localsInUse_invoking X.frames X.method X.code]
    simp only [State.hasRoom, Bool.and_eq_true, decide_eq_true_eq] at h ⊢
    obtain ⟨⟨⟨⟨h1, h2, h3, h4, h5, h6⟩, h7⟩, h8⟩, h9⟩ := h
    rw [X.frames, List.length_cons] at h2 h3
    have q1 := X.heapSize
    have q2 := X.used
    simp only [hF, hU, List.length_cons, State.stackLimits_setFrames, State.stackBytes_setFrames, hl9, hb9]
    refine ⟨⟨⟨⟨by omega, by omega, by omega, by omega, by omega, h6⟩, ?_⟩, ?_⟩, X.book⟩
    · show T.heap.size + R'.cells ≤ e.platform.maxCells
      omega
    · show T.slotsUsed + R'.slots ≤ e.platform.maxSlots
      omega
  · rw [State.stackLimits_setFrames]; rfl
  · rw [State.stackBytes_setFrames]; rfl
  · refine ⟨?_, Nat.le_refl _, Nat.le_refl _, ?_, ?_, fun a c9 h9 => ⟨c9, h9, rfl, rfl, fun _ _ => rfl⟩⟩
    · obtain ⟨t, ht, -⟩ := State.frames_cons hr
      show T.setVm s.vm = { ((T.setVm s.vm).setFrames (.invoking m args :: below)).setFrames (T.setVm s.vm).frames with heap := T.heap, slotsUsed := T.slotsUsed }
      rw [State.setFrames_setFrames, State.setFrames_self ht]
      rfl
    · show T.slotsUsed = T.slotsUsed + ((T.heap.toList.drop T.heap.size).map (·.slots.size)).sum
      rw [List.drop_eq_nil_of_le (Nat.le_of_eq Array.length_toList)]
      rfl
    · show ((T.heap.toList.drop T.heap.size).map (·.slots.size)).sum ≤ 0
      rw [List.drop_eq_nil_of_le (Nat.le_of_eq Array.length_toList)]
      exact Nat.le_refl _
/-- 'throw new E()': new; dup; invokespecial; athrow -/
theorem vx_throw0 {cc : ByteArray} {pc : Nat} (hexec : p.tables.exec = Jvm.exec) (hb : c.code = cc) (hl : l.stackTraces = false) {own cls : String} {names : List String} {ik ic mc ms : Nat} {A : Nat → Prop}
    (hown : s.vm.findClass own = some m.cls) (hcls : Bundle.fit cls = true) (hnames : ∀ n ∈ names, Bundle.fit n = true)
    (hk : (Cond.classLink own ik cls).before args s = true) (hini : (Cond.initialized cls).before args s = true) (hat : ∀ w ∈ vx_at0 own ic cls names, w.before args s = true)
    (hgood : ∀ w ∈ Cond.classLink own ik cls :: Cond.initialized cls :: vx_at0 own ic cls names, vx_ot w = true)
    (hU : vx_Zq Bundle.tN "UNASSIGNED_STACK" Bundle.steD A s s.heap) (hN : vx_Zq Bundle.tN "SUPPRESSED_SENTINEL" Bundle.listD A s s.heap) (hS : va_S A s.heap H locs) (hsize : ls.size = c.maxLocals)
    (d0 : decode cc pc = .ok (.new ik, 3)) (d3 : decode cc (pc + 3) = .ok (.dup, 1)) (d4 : decode cc (pc + 4) = .ok (.invokespecial ic, 3)) (d7 : decode cc (pc + 7) = .ok (.athrow, 1))
    (hout : ∀ x ∈ c.exceptionTable.toList, covers x (pc + 7) = false)
    (hRframes : names.length + 3 < R.frames) (hRlocals : (rest.map fun v => v.category).sum + (13 * (names.length + 1) + 42) ≤ R.locals) (hRcells : cells + 1 ≤ R.cells) (hRslots : slots + 6 ≤ R.slots) (hlocks : meth.locks = false)
    (hx : ∀ t : State, s.vm.Alike t.vm → H.size ≤ t.heap.size → (∀ q : Nat, q < H.size → t.heap[q]? = H[q]?) → XC cls s t)
    (hf : ∀ z ∈ locs, free z.base) (hc : cells + 1 ≤ mc) (hs : slots + 6 ≤ ms) :
    W p l e R s m args below meth c H locs cells slots (vx_MQ below Qc XC args s mc ms free) (F0 m pc ls rest) := by
  intro T hT X
  have htr : e.platform.stackTraces = false := (show e.platform.stackTraces = l.stackTraces by rw [X.admits.platform]).trans hl
  have Y := vx_rebase X (R' := { frames := R.frames, locals := R.locals, cells := 1, slots := 6 }) (Nat.le_refl _) (Nat.le_refl _) hRcells hRslots
  obtain ⟨s', hA⟩ : ∃ z, z = (T.setVm s.vm).setFrames (.invoking m args :: below) := ⟨_, rfl⟩
  rw [← hA] at Y
  have hvm : s'.vm = s.vm := by rw [hA]; rfl
  have hhp : s'.heap = H := by rw [hA]; exact hT
  have hW0 : s.WarmedH s'.vm := by rw [hvm]; exact State.WarmedH.refl s
  have hat' : ∀ w ∈ vx_at0 own ic cls names, w.before args s' = true := fun w hw => vx_ot_at hW0 hvm.symm (hgood w (List.mem_cons_of_mem _ (List.mem_cons_of_mem _ hw))) (hat w hw)
  have hk' : (Cond.classLink own ik cls).before args s' = true := vx_ot_at hW0 hvm.symm (hgood _ List.mem_cons_self) hk
  have hini' : (Cond.initialized cls).before args s' = true := vx_ot_at hW0 hvm.symm (hgood _ (List.mem_cons_of_mem _ List.mem_cons_self)) hini
  have hU' : vx_Zq Bundle.tN "UNASSIGNED_STACK" Bundle.steD A s' s'.heap := by rw [hhp]; exact vx_Zq.moved hW0.alike (hU.kept hS.2.1)
  have hN' : vx_Zq Bundle.tN "SUPPRESSED_SENTINEL" Bundle.listD A s' s'.heap := by rw [hhp]; exact vx_Zq.moved hW0.alike (hN.kept hS.2.1)
  have h : ∀ w ∈ Bundle.ownAtoms0 own ic cls names, w.before args s' = true := vx_own hat' (vx_isRefq hU'.1) (vx_isRefq hN'.1) hU'.2.word hN'.2.word
  have hown' : s'.vm.findClass own = some m.cls := by rw [hvm]; exact hown
  have hins : (Cond.instantiable cls 6).before args s' = true := h _ (by simp [Bundle.ownAtoms0])
  obtain ⟨vm₁, cX, kX, hfX, hkX, -, -, X₁, st1⟩ := Y.newCold hexec (own := own) (C := cls) (index := ik) (n := 6) hown' hk' hins hini'
    (g := F0 m pc ls rest) rfl (by rw [hb]; exact d0) (Nat.le_refl _) (Nat.le_refl _)
  generalize hT1 : (T.setVm vm₁).pushCell { cls := cX, slots := kX.instanceTypes.map defaultValue, vm := .none } = T1 at X₁ st1
  have hcat : (Value.ref T.heap.size).category = 1 := rfl
  have hcellA : T1.heap[T.heap.size]? = some (freshCell cX kX) := by rw [← hT1]; exact State.heap_pushCell_size _ _
  have d3' : decode c.code (pc + 3) = .ok (.dup, 1) := by rw [hb]; exact d3
  obtain ⟨U, hsteps, hrun, hend, hW, hsame, ce, hce, hO⟩ := X₁.ctorThrow0 hexec htr (own := own) (cls := cls) (names := names) (ic := ic) hown' hcls hnames h (fun x hx => nomatch hx) hfX hkX hcellA (by rw [hhp, hT]; exact Nat.le_refl _)
    (g := { method := m, pc := pc + 4, locals := ls, stack := .ref T.heap.size :: .ref T.heap.size :: rest, locked := none }) rfl hsize rfl rfl (rest := rest) rfl
    (by rw [hb]; exact d4) (by rw [hb]; exact d7) hout hRframes (by simp only [List.map_cons, List.sum_cons, hcat]; omega) hlocks
  obtain ⟨f1, f2⟩ := vx_frame hsame
  rw [hhp] at f1 f2
  have hWs : s.WarmedH U.vm := State.WarmedH.trans hW0 hW
  have hcl : s.vm.findClass cls = some ce.cls := by
    have h9 := hO.cls
    rw [hvm] at h9
    exact h9
  have hall : s.sameButNew ({ U with vm := s.vm } : State) locs mc ms := by
    subst hA
    obtain ⟨e1, e2⟩ := hsame
    rw [State.setFrames_setFrames] at e1
    have h2 : (T.setVm s.vm).sameButNew ({ U with vm := s.vm } : State) [] (0 + 1) (0 + 6) := ⟨e1, e2⟩
    have h3 := X.same.trans h2
    rw [List.append_nil] at h3
    exact h3.mono hc hs
  refine ⟨U, ?_, .threw T.heap.size, hrun, hend, Or.inr ⟨T.heap.size, rfl, cls, ce, locs, hx U hWs.alike f1 (fun q hq => f2 q hq (fun z hz => nomatch hz)), hce, hO.vm, hcl, hWs, hall, hf⟩⟩
  refine st1 _ ?_
  show Steps p.tables e below (T1.setTop { method := m, pc := pc + 3, locals := ls, stack := .ref T.heap.size :: rest, locked := none }) _
  jvm_step X₁.here [X₁.here.top, hexec, d3', Value.category]
  exact hsteps
/-- 'throw new E("text")': new; dup; ldc; invokespecial; athrow -/
theorem vx_throwS {cc : ByteArray} {pc : Nat} (hexec : p.tables.exec = Jvm.exec) (hb : c.code = cc) (hl : l.stackTraces = false) {own cls text : String} {names : List String} {ik is ic mc ms sa : Nat} {A : Nat → Prop}
    (hown : s.vm.findClass own = some m.cls) (hcls : Bundle.fit cls = true) (hnames : ∀ n ∈ names, Bundle.fit n = true)
    (hk : (Cond.classLink own ik cls).before args s = true) (hini : (Cond.initialized cls).before args s = true) (hstr : vk_R own is text sa s) (hat : ∀ w ∈ vx_atS own ic cls names, w.before args s = true)
    (hgood : ∀ w ∈ Cond.classLink own ik cls :: Cond.initialized cls :: vx_atS own ic cls names, vx_ot w = true)
    (hU : vx_Zq Bundle.tN "UNASSIGNED_STACK" Bundle.steD A s s.heap) (hN : vx_Zq Bundle.tN "SUPPRESSED_SENTINEL" Bundle.listD A s s.heap) (hS : va_S A s.heap H locs) (hsize : ls.size = c.maxLocals)
    (d0 : decode cc pc = .ok (.new ik, 3)) (d3 : decode cc (pc + 3) = .ok (.dup, 1)) (d4 : decode cc (pc + 4) = .ok (.ldc is, 2)) (d6 : decode cc (pc + 6) = .ok (.invokespecial ic, 3)) (d9 : decode cc (pc + 9) = .ok (.athrow, 1))
    (hout : ∀ x ∈ c.exceptionTable.toList, covers x (pc + 9) = false)
    (hRframes : names.length + 3 < R.frames) (hRlocals : (rest.map fun v => v.category).sum + (13 * (names.length + 1) + 43) ≤ R.locals) (hRcells : cells + 1 ≤ R.cells) (hRslots : slots + 6 ≤ R.slots) (hlocks : meth.locks = false)
    (hx : ∀ t : State, s.vm.Alike t.vm → H.size ≤ t.heap.size → (∀ q : Nat, q < H.size → t.heap[q]? = H[q]?) → XC cls s t)
    (hf : ∀ z ∈ locs, free z.base) (hc : cells + 1 ≤ mc) (hs : slots + 6 ≤ ms) :
    W p l e R s m args below meth c H locs cells slots (vx_MQ below Qc XC args s mc ms free) (F0 m pc ls rest) := by
  intro T hT X
  have htr : e.platform.stackTraces = false := (show e.platform.stackTraces = l.stackTraces by rw [X.admits.platform]).trans hl
  have Y := vx_rebase X (R' := { frames := R.frames, locals := R.locals, cells := 1, slots := 6 }) (Nat.le_refl _) (Nat.le_refl _) hRcells hRslots
  obtain ⟨s', hA⟩ : ∃ z, z = (T.setVm s.vm).setFrames (.invoking m args :: below) := ⟨_, rfl⟩
  rw [← hA] at Y
  have hvm : s'.vm = s.vm := by rw [hA]; rfl
  have hhp : s'.heap = H := by rw [hA]; exact hT
  have hW0 : s.WarmedH s'.vm := by rw [hvm]; exact State.WarmedH.refl s
  have hat' : ∀ w ∈ vx_atS own ic cls names, w.before args s' = true := fun w hw => vx_ot_at hW0 hvm.symm (hgood w (List.mem_cons_of_mem _ (List.mem_cons_of_mem _ hw))) (hat w hw)
  have hk' : (Cond.classLink own ik cls).before args s' = true := vx_ot_at hW0 hvm.symm (hgood _ List.mem_cons_self) hk
  have hini' : (Cond.initialized cls).before args s' = true := vx_ot_at hW0 hvm.symm (hgood _ (List.mem_cons_of_mem _ List.mem_cons_self)) hini
  have hU' : vx_Zq Bundle.tN "UNASSIGNED_STACK" Bundle.steD A s' s'.heap := by rw [hhp]; exact vx_Zq.moved hW0.alike (hU.kept hS.2.1)
  have hN' : vx_Zq Bundle.tN "SUPPRESSED_SENTINEL" Bundle.listD A s' s'.heap := by rw [hhp]; exact vx_Zq.moved hW0.alike (hN.kept hS.2.1)
  have h : ∀ w ∈ Bundle.ownAtoms own ic cls names, w.before args s' = true := vx_own hat' (vx_isRefq hU'.1) (vx_isRefq hN'.1) hU'.2.word hN'.2.word
  have hown' : s'.vm.findClass own = some m.cls := by rw [hvm]; exact hown
  have hins : (Cond.instantiable cls 6).before args s' = true := h _ (by simp [Bundle.ownAtoms])
  obtain ⟨vm₁, cX, kX, hfX, hkX, -, -, X₁, st1⟩ := Y.newCold hexec (own := own) (C := cls) (index := ik) (n := 6) hown' hk' hins hini'
    (g := F0 m pc ls rest) rfl (by rw [hb]; exact d0) (Nat.le_refl _) (Nat.le_refl _)
  generalize hT1 : (T.setVm vm₁).pushCell { cls := cX, slots := kX.instanceTypes.map defaultValue, vm := .none } = T1 at X₁ st1
  have hcat : (Value.ref T.heap.size).category = 1 := rfl
  have hcellA : T1.heap[T.heap.size]? = some (freshCell cX kX) := by rw [← hT1]; exact State.heap_pushCell_size _ _
  have d3' : decode c.code (pc + 3) = .ok (.dup, 1) := by rw [hb]; exact d3
  have d4' : decode c.code (pc + 4) = .ok (.ldc is, 2) := by rw [hb]; exact d4
  have hstr' : vk_R own is text sa s' := vk_R.warm hW0 hstr
  obtain ⟨U, hsteps, hrun, hend, hW, hsame, ce, hce, hO⟩ := X₁.ctorThrowS hexec htr (own := own) (cls := cls) (names := names) (ic := ic) hown' hcls hnames h (fun x hx => nomatch hx) hfX hkX hcellA (by rw [hhp, hT]; exact Nat.le_refl _) (msg := .ref sa) rfl
    (g := { method := m, pc := pc + 6, locals := ls, stack := .ref sa :: .ref T.heap.size :: .ref T.heap.size :: rest, locked := none }) rfl hsize rfl rfl (rest := rest) rfl
    (by rw [hb]; exact d6) (by rw [hb]; exact d9) hout hRframes (by simp only [List.map_cons, List.sum_cons, hcat]; omega) hlocks
  obtain ⟨f1, f2⟩ := vx_frame hsame
  rw [hhp] at f1 f2
  have hWs : s.WarmedH U.vm := State.WarmedH.trans hW0 hW
  have hcl : s.vm.findClass cls = some ce.cls := by
    have h9 := hO.cls
    rw [hvm] at h9
    exact h9
  have hall : s.sameButNew ({ U with vm := s.vm } : State) locs mc ms := by
    subst hA
    obtain ⟨e1, e2⟩ := hsame
    rw [State.setFrames_setFrames] at e1
    have h2 : (T.setVm s.vm).sameButNew ({ U with vm := s.vm } : State) [] (0 + 1) (0 + 6) := ⟨e1, e2⟩
    have h3 := X.same.trans h2
    rw [List.append_nil] at h3
    exact h3.mono hc hs
  refine ⟨U, ?_, .threw T.heap.size, hrun, hend, Or.inr ⟨T.heap.size, rfl, cls, ce, locs, hx U hWs.alike f1 (fun q hq => f2 q hq (fun z hz => nomatch hz)), hce, hO.vm, hcl, hWs, hall, hf⟩⟩
  refine st1 _ ?_
  show Steps p.tables e below (T1.setTop { method := m, pc := pc + 3, locals := ls, stack := .ref T.heap.size :: rest, locked := none }) _
  jvm_step X₁.here [X₁.here.top, hexec, d3', Value.category]
  exact X₁.ldcString hexec (own := own) (text := text) (index := is) (a := sa) hown' hstr'.1 hstr'.2
    (g := { method := m, pc := pc + 4, locals := ls, stack := .ref T.heap.size :: .ref T.heap.size :: rest, locked := none }) rfl d4' _ hsteps
/-- 'throw new E("text")', the text by a wide index -/
theorem vx_throwSW {cc : ByteArray} {pc : Nat} (hexec : p.tables.exec = Jvm.exec) (hb : c.code = cc) (hl : l.stackTraces = false) {own cls text : String} {names : List String} {ik is ic mc ms sa : Nat} {A : Nat → Prop}
    (hown : s.vm.findClass own = some m.cls) (hcls : Bundle.fit cls = true) (hnames : ∀ n ∈ names, Bundle.fit n = true)
    (hk : (Cond.classLink own ik cls).before args s = true) (hini : (Cond.initialized cls).before args s = true) (hstr : vk_R own is text sa s) (hat : ∀ w ∈ vx_atS own ic cls names, w.before args s = true)
    (hgood : ∀ w ∈ Cond.classLink own ik cls :: Cond.initialized cls :: vx_atS own ic cls names, vx_ot w = true)
    (hU : vx_Zq Bundle.tN "UNASSIGNED_STACK" Bundle.steD A s s.heap) (hN : vx_Zq Bundle.tN "SUPPRESSED_SENTINEL" Bundle.listD A s s.heap) (hS : va_S A s.heap H locs) (hsize : ls.size = c.maxLocals)
    (d0 : decode cc pc = .ok (.new ik, 3)) (d3 : decode cc (pc + 3) = .ok (.dup, 1)) (d4 : decode cc (pc + 4) = .ok (.ldc_w is, 3)) (d7 : decode cc (pc + 7) = .ok (.invokespecial ic, 3)) (d10 : decode cc (pc + 10) = .ok (.athrow, 1))
    (hout : ∀ x ∈ c.exceptionTable.toList, covers x (pc + 10) = false)
    (hRframes : names.length + 3 < R.frames) (hRlocals : (rest.map fun v => v.category).sum + (13 * (names.length + 1) + 43) ≤ R.locals) (hRcells : cells + 1 ≤ R.cells) (hRslots : slots + 6 ≤ R.slots) (hlocks : meth.locks = false)
    (hx : ∀ t : State, s.vm.Alike t.vm → H.size ≤ t.heap.size → (∀ q : Nat, q < H.size → t.heap[q]? = H[q]?) → XC cls s t)
    (hf : ∀ z ∈ locs, free z.base) (hc : cells + 1 ≤ mc) (hs : slots + 6 ≤ ms) :
    W p l e R s m args below meth c H locs cells slots (vx_MQ below Qc XC args s mc ms free) (F0 m pc ls rest) := by
  intro T hT X
  have htr : e.platform.stackTraces = false := (show e.platform.stackTraces = l.stackTraces by rw [X.admits.platform]).trans hl
  have Y := vx_rebase X (R' := { frames := R.frames, locals := R.locals, cells := 1, slots := 6 }) (Nat.le_refl _) (Nat.le_refl _) hRcells hRslots
  obtain ⟨s', hA⟩ : ∃ z, z = (T.setVm s.vm).setFrames (.invoking m args :: below) := ⟨_, rfl⟩
  rw [← hA] at Y
  have hvm : s'.vm = s.vm := by rw [hA]; rfl
  have hhp : s'.heap = H := by rw [hA]; exact hT
  have hW0 : s.WarmedH s'.vm := by rw [hvm]; exact State.WarmedH.refl s
  have hat' : ∀ w ∈ vx_atS own ic cls names, w.before args s' = true := fun w hw => vx_ot_at hW0 hvm.symm (hgood w (List.mem_cons_of_mem _ (List.mem_cons_of_mem _ hw))) (hat w hw)
  have hk' : (Cond.classLink own ik cls).before args s' = true := vx_ot_at hW0 hvm.symm (hgood _ List.mem_cons_self) hk
  have hini' : (Cond.initialized cls).before args s' = true := vx_ot_at hW0 hvm.symm (hgood _ (List.mem_cons_of_mem _ List.mem_cons_self)) hini
  have hU' : vx_Zq Bundle.tN "UNASSIGNED_STACK" Bundle.steD A s' s'.heap := by rw [hhp]; exact vx_Zq.moved hW0.alike (hU.kept hS.2.1)
  have hN' : vx_Zq Bundle.tN "SUPPRESSED_SENTINEL" Bundle.listD A s' s'.heap := by rw [hhp]; exact vx_Zq.moved hW0.alike (hN.kept hS.2.1)
  have h : ∀ w ∈ Bundle.ownAtoms own ic cls names, w.before args s' = true := vx_own hat' (vx_isRefq hU'.1) (vx_isRefq hN'.1) hU'.2.word hN'.2.word
  have hown' : s'.vm.findClass own = some m.cls := by rw [hvm]; exact hown
  have hins : (Cond.instantiable cls 6).before args s' = true := h _ (by simp [Bundle.ownAtoms])
  obtain ⟨vm₁, cX, kX, hfX, hkX, -, -, X₁, st1⟩ := Y.newCold hexec (own := own) (C := cls) (index := ik) (n := 6) hown' hk' hins hini'
    (g := F0 m pc ls rest) rfl (by rw [hb]; exact d0) (Nat.le_refl _) (Nat.le_refl _)
  generalize hT1 : (T.setVm vm₁).pushCell { cls := cX, slots := kX.instanceTypes.map defaultValue, vm := .none } = T1 at X₁ st1
  have hcat : (Value.ref T.heap.size).category = 1 := rfl
  have hcellA : T1.heap[T.heap.size]? = some (freshCell cX kX) := by rw [← hT1]; exact State.heap_pushCell_size _ _
  have d3' : decode c.code (pc + 3) = .ok (.dup, 1) := by rw [hb]; exact d3
  have d4' : decode c.code (pc + 4) = .ok (.ldc_w is, 3) := by rw [hb]; exact d4
  have hstr' : vk_R own is text sa s' := vk_R.warm hW0 hstr
  obtain ⟨U, hsteps, hrun, hend, hW, hsame, ce, hce, hO⟩ := X₁.ctorThrowS hexec htr (own := own) (cls := cls) (names := names) (ic := ic) hown' hcls hnames h (fun x hx => nomatch hx) hfX hkX hcellA (by rw [hhp, hT]; exact Nat.le_refl _) (msg := .ref sa) rfl
    (g := { method := m, pc := pc + 7, locals := ls, stack := .ref sa :: .ref T.heap.size :: .ref T.heap.size :: rest, locked := none }) rfl hsize rfl rfl (rest := rest) rfl
    (by rw [hb]; exact d7) (by rw [hb]; exact d10) hout hRframes (by simp only [List.map_cons, List.sum_cons, hcat]; omega) hlocks
  obtain ⟨f1, f2⟩ := vx_frame hsame
  rw [hhp] at f1 f2
  have hWs : s.WarmedH U.vm := State.WarmedH.trans hW0 hW
  have hcl : s.vm.findClass cls = some ce.cls := by
    have h9 := hO.cls
    rw [hvm] at h9
    exact h9
  have hall : s.sameButNew ({ U with vm := s.vm } : State) locs mc ms := by
    subst hA
    obtain ⟨e1, e2⟩ := hsame
    rw [State.setFrames_setFrames] at e1
    have h2 : (T.setVm s.vm).sameButNew ({ U with vm := s.vm } : State) [] (0 + 1) (0 + 6) := ⟨e1, e2⟩
    have h3 := X.same.trans h2
    rw [List.append_nil] at h3
    exact h3.mono hc hs
  refine ⟨U, ?_, .threw T.heap.size, hrun, hend, Or.inr ⟨T.heap.size, rfl, cls, ce, locs, hx U hWs.alike f1 (fun q hq => f2 q hq (fun z hz => nomatch hz)), hce, hO.vm, hcl, hWs, hall, hf⟩⟩
  refine st1 _ ?_
  show Steps p.tables e below (T1.setTop { method := m, pc := pc + 3, locals := ls, stack := .ref T.heap.size :: rest, locked := none }) _
  jvm_step X₁.here [X₁.here.top, hexec, d3', Value.category]
  exact X₁.ldcStringW hexec (own := own) (text := text) (index := is) (a := sa) hown' hstr'.1 hstr'.2
    (g := { method := m, pc := pc + 4, locals := ls, stack := .ref T.heap.size :: .ref T.heap.size :: rest, locked := none }) rfl d4' _ hsteps
end Ends
section Bodies
variable {l : Launch}
theorem vx_ofW {y : MethodName} {ws ws' : List Cond} {rm : Room} {Pc : Array Value → State → Prop} {Qc : Array Value → State → Outcome → State → Prop} {XC : String → State → State → Prop} {mc ms : Nat} {free : Addr → Prop} {cc : ByteArray} {maxL : Nat} {ret : Option FieldType}
    (hy : plainName y.cls = true) (hw : ws = Cond.code y cc maxL ret :: ws')
    (body : ∀ p e s m args below meth c s₁, BodyLoose p l y (headSpec ws rm) cc maxL ret e s m args below meth c s₁ → c.maxLocals = maxL → (∀ x ∈ c.exceptionTable.toList, False) → Pc args s →
      W p l e (headSpec ws rm).room s m args below meth c s.heap [] 0 0 (vx_MQ below Qc XC args s mc ms free) (entryFrame m args maxL)) : vx_Met l y ws rm Pc Qc XC mc ms free := by
  refine MetFree.of_bodyS (code := cc) (maxLocals := maxL) (ret := ret) hy ?_ ?_
  · intro args s m h hn
    obtain ⟨meth, c, h1, h2, h3, h4, h5, h6, -, -⟩ := Cond.code_spec hn (atoms_spec (ws := ws) h _ (by rw [hw]; exact List.mem_cons_self))
    exact ⟨meth, c, h1, h2, h3, h4, h5, h6⟩
  · intro p e s m args below meth c s₁ B hml hP _
    have hh0 : s₁.heap = s.heap := by rw [B.state]; rfl
    have ht : ∀ x ∈ c.exceptionTable.toList, False := by
      obtain ⟨meth9, c9, h1, h2, -, -, -, -, h7, -⟩ := Cond.code_spec B.named (atoms_spec (ws := ws) B.pre _ (by rw [hw]; exact List.mem_cons_self))
      cases Option.some.inj (h1.symm.trans B.method)
      cases Option.some.inj (h2.symm.trans (Stand.of_body B).code)
      intro x hx
      rw [Array.isEmpty_iff.mp h7] at hx
      cases hx
    obtain ⟨t, a1, o, b1, b2, b3⟩ := body p e s m args below meth c s₁ B hml ht hP s₁ hh0 (Stand.of_body B)
    exact ⟨t, o, a1, b1, b2, b3⟩
/-- the table of a body with handlers -/
theorem vx_table {p : Program} {x y : MethodName} {S : Spec} {cc bytes : ByteArray} {maxL maxL' : Nat} {ret ret' : Option FieldType} {e : Env} {s s₁ : State} {m : MethodId} {args : Array Value} {below : List Frame} {meth : Method} {c : Code} {hh : List (Nat × Nat × Nat × Nat)}
    (B : BodyLoose p l y S cc maxL ret e s m args below meth c s₁) (h : (Cond.codeWith y bytes maxL' ret' hh).before args s = true) : c.exceptionTable.toList = tableOf hh := by
  obtain ⟨m9, meth9, c9, hn9, h1, h2, -, -, h6, -⟩ := Cond.codeWith_spec h
  cases Option.some.inj (hn9.symm.trans B.named)
  cases Option.some.inj (h1.symm.trans B.method)
  cases Option.some.inj (h2.symm.trans (Stand.of_body B).code)
  rw [← h6, table_eq]
end Bodies
end VXA
/-! ===== END ===== -/
/-! ===== BEGIN a static call of a method with an exception table ===== -/
section VXS
variable {p : Program} {l : Launch} {e : Env} {R : Room} {s : State} {m : MethodId} {args : Array Value} {below : List Frame} {meth : Method} {c : Code} {T : State} {H : Heap} {locs : List Loc} {cells slots : Nat}
abbrev vx_CSW (R : Room) (s : State) (args : Array Value) (own : String) (index : Nat) (y : MethodName) (bytes : ByteArray) (maxL : Nat) (ret : Option FieldType) (hh : List (Nat × Nat × Nat × Nat)) (ws : List Cond) (rm : Room) (mc ms n : Nat) : Prop :=
  (rm.cells = mc ∧ rm.slots = ms ∧ rm.frames + 1 ≤ R.frames ∧ 8 + (maxL + 11) + rm.locals ≤ R.locals ∧ (∀ w ∈ ws, ∀ (a' : Array Value) (U : State), s.WarmedH U.vm → w.before a' U = true) ∧ Cond.codeWith y bytes maxL ret hh ∈ ws) ∧
  (Cond.codeWith y bytes maxL ret hh).before args s = true ∧ (Cond.initialized y.cls).before args s = true ∧ (y.cls ≠ "java/lang/invoke/MethodHandle" ∧ y.cls ≠ "java/lang/invoke/VarHandle") ∧
  (∀ sig, parseMethodDescriptor y.desc = some sig → n = sig.parameters.length) ∧ (Cond.methodLink own index y).before args s = true ∧ (Cond.static y).before args s = true
theorem vx_cwSW {own : String} {index maxL mc ms : Nat} {y : MethodName} {bytes : ByteArray} {ret : Option FieldType} {hh : List (Nat × Nat × Nat × Nat)} {Ts ws ws' : List Cond} {rm : Room} (n : Nat) (ht : ∀ w ∈ Ts, w.before args s = true) (hT : GoodIn Ts (va_wsS own index y ws)) (hw : ws = Cond.codeWith y bytes maxL ret hh :: ws') (hrc : rm.cells = mc) (hrs : rm.slots = ms)
    (hd : y.cls ≠ "java/lang/invoke/MethodHandle" ∧ y.cls ≠ "java/lang/invoke/VarHandle" ∧ (parseMethodDescriptor y.desc).map (fun d => d.parameters.length) = some n) (hR : rm.frames + 1 ≤ R.frames ∧ 8 + (maxL + 11) + rm.locals ≤ R.locals) :
    vx_CSW R s args own index y bytes maxL ret hh ws rm mc ms n := by
  have ok : ∀ w ∈ va_wsS own index y ws, w.before args s = true := fun w h => ht w (hT w h).1
  have hG : GoodIn Ts ws := fun w h => hT w (by unfold va_wsS; exact List.mem_append_right _ h)
  have hc : Cond.codeWith y bytes maxL ret hh ∈ ws := by rw [hw]; exact List.mem_cons_self
  refine ⟨⟨hrc, hrs, hR.1, hR.2, pay_in ht hG, hc⟩, ht _ (hG _ hc).1, ok _ (by simp [va_wsS]), ⟨hd.1, hd.2.1⟩, fun sig h => ?_, ok _ (by simp [va_wsS]), ok _ (by simp [va_wsS])⟩
  have h2 := hd.2.2
  rw [h] at h2
  exact (Option.some.inj h2).symm
theorem vx_callSW (X : Stand p l e R s m args below meth c T locs cells slots) (hexec : p.tables.exec = Jvm.exec) {own : String} {index : Nat} {y : MethodName} {bytes : ByteArray} {maxL : Nat} {ret : Option FieldType} {hh : List (Nat × Nat × Nat × Nat)}
    (hown : s.vm.findClass own = some m.cls) (hlink : (Cond.methodLink own index y).before args s = true) (hstat : (Cond.static y).before args s = true) (hinit : (Cond.initialized y.cls).before args s = true)
    (hcode : (Cond.codeWith y bytes maxL ret hh).before args s = true) (hy : y.cls ≠ "java/lang/invoke/MethodHandle" ∧ y.cls ≠ "java/lang/invoke/VarHandle")
    {W9 : Nat} {Pre : Pt → Array Value → Prop} {Post : Pt → Array Value → Option Value → Pt → Prop} (hK : Back l R p e below s args y 3 W9 Pre Post)
    {g : JFrame} (hg : g.method = m) (hsize : g.locals.size = c.maxLocals) {argsL rest : List Value} (hlen : ∀ sig, parseMethodDescriptor y.desc = some sig → argsL.length = sig.parameters.length)
    (hstack : g.stack = argsL.reverse ++ rest) (hW : 2 * g.monitorRoom + (rest.map fun v => v.category).sum ≤ W9) (hdg : decode c.code g.pc = .ok (.invokestatic index, 3))
    (hpre : ∀ vm₁, s.WarmedH vm₁ → Pre ⟨T.setVm vm₁, locs, cells, slots⟩ argsL.toArray) :
    ∃ (v : Option Value) (vm₁ : Vm) (B : Pt), s.WarmedH vm₁ ∧ Stand p l e R s m args below meth c B.U B.locs B.cells B.slots ∧ Post ⟨T.setVm vm₁, locs, cells, slots⟩ argsL.toArray v B ∧
      ∀ target, Steps p.tables e below (B.U.setTop { g with pc := g.pc + 3, stack := v.toList ++ rest }) target → Steps p.tables e below (T.setTop g) target := by
  obtain ⟨mk, methM, cM, hnamed, hmethM, -, -, -, -, -, -, hsigM⟩ := Cond.codeWith_spec hcode
  have hstatic : methM.isStatic = true := Cond.static_spec hnamed hmethM hstat
  obtain ⟨kP, hkP, -⟩ := className_of_methodNamed hnamed
  have hinitP : kP.init = .initialized := Cond.initialized_spec (findClass_of_methodNamed hnamed) hkP hinit
  obtain ⟨vm₁, X₁, hstep₁⟩ := X.invokestatic hexec hown hlink hnamed hmethM hstatic hkP hinitP hy (g := g) hg (argsL := argsL) (rest := rest) (hlen _ hsigM) hstack hdg
  obtain ⟨v, B, X', hpost, hsteps⟩ := hK m meth c ⟨T.setVm vm₁, locs, cells, slots⟩ { g with stack := rest } (.invokestatic index) mk argsL.toArray X₁ hg hsize hdg hW (X₁.named hnamed) (hpre vm₁ X₁.warmed)
  exact ⟨v, vm₁, B, X₁.warmed, X', hpost, fun target h => hstep₁ _ fun acts => by rw [doInvoke_state]; exact hsteps.trans h⟩
theorem vx_runSW {y : MethodName} {bytes cc : ByteArray} {maxL nL mc ms n index : Nat} {ret : Option FieldType} {hh : List (Nat × Nat × Nat × Nat)} {ws : List Cond} {rm : Room} {Pc : Array Value → State → Prop} {Qc : Array Value → State → Outcome → State → Prop} {free : Addr → Prop} {Ts : List Cond} {own : String} {As rest : List Value} {g : JFrame}
    (S : CallFix p m c cc nL s args Ts own) (hM : Met l y ws rm Pc Qc mc ms free) (cw : vx_CSW R s args own index y bytes maxL ret hh ws rm mc ms n) (hp : PreS s H Pc As)
    (hg : g.method = m) (hn : As.length = n) (hsize : g.locals.size = nL) (hstack : g.stack = As.reverse ++ rest) (hW : 2 * g.monitorRoom + (rest.map fun v => v.category).sum ≤ 8) (hdg : decode cc g.pc = .ok (.invokestatic index, 3)) (hf : cells + mc ≤ R.cells ∧ slots + ms ≤ R.slots) :
    va_Run p l e R s m args below meth c H locs cells slots mc ms g rest (Qc As.toArray) (free) := by
  obtain ⟨⟨hrc, hrs, hfr, hlo, hws, hcw⟩, hcode, hini, hy, hlen, hl, hstt⟩ := cw
  have hK : Back l R p e below s args y 3 8 (PreOf R mc ms Pc) (PostOf Qc mc ms free) := va_backW (hh := hh) (bytes := bytes) (maxL := maxL) (ret := ret) hM hp.1 hrc hrs hfr hlo hws hcw (fun a' U hW => word_at hW (Or.inl (by first | rfl | simp [Cond.onTables, Cond.keeps, Cond.steady])) hini)
  obtain ⟨hx, hb, hml, ho, -⟩ := S
  intro T hT X
  obtain ⟨v, vm₁, ⟨U', l2, c2, s2⟩, hW₁, X', ⟨g', mk, t, L, e1, e2, hq, h1, hL, h2, h3⟩, st⟩ := vx_callSW X hx (hh := hh) (bytes := bytes) (maxL := maxL) (ret := ret) ho hl hstt hini hcode hy hK hg (hsize.trans hml.symm) (argsL := As) (rest := rest) (fun sig h => hn.trans (hlen sig h)) hstack hW (by rw [hb]; exact hdg)
    (fun vm₁ hW₁ => ⟨hf.1, hf.2, hp.2 (T.setVm vm₁) hT hW₁⟩)
  dsimp only [Pt.U, Pt.locs, Pt.cells, Pt.slots] at X' e1 e2 h1 h2 h3 st
  subst h1; subst h2; subst h3
  exact ⟨v, (T.setVm vm₁).calling g' mk As.toArray, t, U', L, hT, X', hL, e1, e2, hq, st⟩
/-- not caught here, past rows that name other classes: it goes on to the caller -/
theorem vx_outP {p : Program} {l : Launch} {e : Env} {R : Room} {s : State} {m : MethodId} {args : Array Value} {below : List Frame} {meth : Method} {c : Code} {H : Heap} {locs : List Loc} {cells slots : Nat} {free : Addr → Prop} {ls : Array Slot} {rest : List Value} {Qc : Array Value → State → Outcome → State → Prop} {XC : String → State → State → Prop}
    {pc : Nat} {own E : String} {ce : Cell} {q : Addr} {mc ms : Nat} (hown : s.vm.findClass own = some m.cls) (hlocks : meth.locks = false)
    (hpass : ∀ z ∈ c.exceptionTable.toList, covers z pc = false ∨ (z.catchType ≠ 0 ∧ ∃ nm : String, (Cond.classLink own z.catchType nm).before args s = true ∧ va_Nc E nm s)) (hcell : H[q]? = some ce) (hv : ce.vm = .none) (hcl : s.vm.findClass E = some ce.cls)
    (hx : ∀ t : State, t.heap = H → s.vm.Alike t.vm → XC E s t) (hf : ∀ z ∈ locs, free z.base) (hc : cells ≤ mc) (hs : slots ≤ ms) :
    vx_W p l e R s m args below meth c H locs cells slots (vx_MQ below Qc XC args s mc ms free) (F0 m pc ls rest) q := by
  intro T hT X
  have hpl : e.platform.magicAccessors = ({} : Platform).magicAccessors := by rw [X.admits.platform]
  obtain ⟨vm', hW', X', st⟩ := X.outThrough hlocks q (g := F0 m pc ls rest) rfl rfl rfl (cell := ce) (by rw [hT]; exact hcell) (by rw [hv]; rfl)
    (by obtain ⟨k9, h9, -⟩ := Vm.findClass_spec hcl; exact ⟨k9, h9⟩) (fun z hz => by
      rcases hpass z hz with h | ⟨hz0, nm, hl1, hn1⟩
      · exact Or.inl h
      · obtain ⟨c6, hc6, hcl6⟩ := Cond.classLink_spec hown hl1 e.platform hpl
        obtain ⟨a8, b8, h1, h2, h3⟩ := hn1
        cases Option.some.inj (h1.symm.trans hcl)
        cases Option.some.inj (h2.symm.trans hc6)
        exact Or.inr ⟨hz0, _, hcl6, h3⟩)
  obtain ⟨g₀, hfr⟩ := X'.frames_eq
  have hcell9 : ((T.setVm vm').setFrames (.throwing q :: below)).heap[q]? = some ce := by
    show T.heap[q]? = some ce
    rw [hT]; exact hcell
  have hend : Ended ((T.setVm vm').setFrames (.throwing q :: below)) below (.threw q) := State.frames_setFrames _ (State.cur_lt_of_frames hfr)
  refine ⟨(T.setVm vm').setFrames (.throwing q :: below), ?_, .threw q, X'.here.running, hend, Or.inr ⟨q, rfl, E, ce, locs, hx _ hT (X'.ends _).1.alike, hcell9, hv, hcl, (X'.ends _).1, (X'.ends _).2.mono hc hs, hf⟩⟩
  rw [X.pushThrowing_eq]
  exact st
/-- a thing of a world lies in the heap -/
theorem vx_lt {D : va_G} {cl : List vw_C} {ws : va_W} {H1 : Heap} (h : va_P D cl ws H1) {k : Nat} {q : Nat × va_E} (hk : ws[k]? = some q) : q.1 < H1.size := (h k q hk).lt
end VXS
/-! ===== END ===== -/
/-! ===== BEGIN methods with a table of their own: called by a name, returning or throwing ===== -/
section VXH
/-! vx_backW, vx_callVX, vx_callSX, vx_callVW, vx_runVW, vx_runVX, vx_runSX, vx_ofWH follow the same proofs as their sisters above (Free/Laws.lean, Shelf42/LK1.lean); vx_outP calls Shelf42/NT130.lean (outThrough). -/
section
variable {l : Launch} {R : Room} {p : Program} {e : Env} {below : List Frame} {s : State} {sargs : Array Value} {y : MethodName} {len W9 : Nat}
theorem vx_backW {ws : List Cond} {rm : Room} {Pc : Array Value → State → Prop} {Qc : Array Value → State → Outcome → State → Prop} {XC : String → State → State → Prop} {mc ms : Nat} {free : Addr → Prop} {bytes : ByteArray} {maxL : Nat} {ret : Option FieldType} {hh : List (Nat × Nat × Nat × Nat)}
    (hM : vx_Met l y ws rm Pc Qc XC mc ms free) (hblind : FrameBlind Pc) (hrc : rm.cells = mc) (hrs : rm.slots = ms)
    (hframes : rm.frames + 1 ≤ R.frames) (hlocals : W9 + (maxL + 11) + rm.locals ≤ R.locals)
    (hws : ∀ w ∈ ws, ∀ a' U, s.WarmedH U.vm → w.before a' U = true) (hcode : Cond.codeWith y bytes maxL ret hh ∈ ws) (hinit : ∀ a' U, s.WarmedH U.vm → (Cond.initialized y.cls).before a' U = true) :
    vx_Back l R p e below s sargs y len W9 (PreOf R mc ms Pc) (PostOf Qc mc ms free) (vx_Post XC mc ms free) := by
  intro m meth c A g ig mk a X hg hsize hdg hW hn hp
  have h1 : (headSpec ws rm).pre.before a A.U = true := atoms_intro fun w hw => hws w hw _ _ X.warmed
  have h2 : (Cond.codeWith y bytes maxL ret hh).before a A.U = true := hws _ hcode _ _ X.warmed
  have h3 : (Cond.initialized y.cls).before a A.U = true := hinit _ _ X.warmed
  have h4 : A.cells + (headSpec ws rm).room.cells ≤ R.cells := by rw [show (headSpec ws rm).room.cells = mc from hrc]; exact hp.1
  have h5 : A.slots + (headSpec ws rm).room.slots ≤ R.slots := by rw [show (headSpec ws rm).room.slots = ms from hrs]; exact hp.2.1
  have hPc : Pc a (A.U.calling g mk a) := hblind _ _ _ _ hp.2.2
  obtain ⟨U, Ls, c0, s0⟩ := A
  dsimp only [Pt.U, Pt.locs, Pt.cells, Pt.slots] at h1 h2 h3 h4 h5 X hn hPc ⊢
  obtain ⟨m9, methY, cY, hn9, hmY, hcY, -, hlY, -⟩ := Cond.codeWith_spec h2
  cases Option.some.inj (hn9.symm.trans hn)
  obtain ⟨kY, hkY, -⟩ := className_of_methodNamed hn
  have hinitY : kY.init = .initialized := Cond.initialized_spec (findClass_of_methodNamed hn) hkY h3
  have h : At U g.method c below := by rw [hg]; exact X.here
  have hlocals9 : W9 + (maxL + 11) + (headSpec ws rm).room.locals ≤ R.locals := hlocals
  have happ : (headSpec ws rm).appliesLoose y e.platform (U.calling g mk a) = true :=
    Spec.appliesLoose_calling (g := g) h hdg hn hkY hinitY
      (X.room_calling (g := g) (R' := (headSpec ws rm).room) hsize hmY hcY hframes (by rw [hlY]; omega) h4 h5) h1
  obtain ⟨mid, hmid⟩ := h.above
  have hfr : (U.setTop g).frames = (.java g :: mid) ++ below := by rw [State.frames_setTop' g h.top, hmid]; rfl
  obtain ⟨o, s₂, hsteps, -, hend, hq⟩ := Steps.callFree hM p X.admits X.cas X.clock (acts := []) hfr happ hPc trivial
  have hq' : vx_Q Qc XC mc ms free a (U.calling g mk a) o s₂ := hq
  rw [State.frames_setTop' g h.top] at hend
  obtain ⟨g₀, hg0⟩ := Option.isSome_iff_exists.mp h.top
  obtain ⟨r, hr⟩ := State.topJava?_eq_some.mp hg0
  have hr' : (({ U with heap := s₂.heap, slotsUsed := s₂.slotsUsed } : State).setVm s₂.vm).frames = .java g₀ :: r := hr
  rcases hq' with ⟨hqc, L, hfe, hL⟩ | ⟨q, rfl, E, ce, L, hx, hce, hcv, hcl, hW₂, hsm, hL⟩
  · obtain ⟨⟨v, rfl⟩, hW₂, e2, q2, q3, q4, q5, q6⟩ := id hfe
    have e3 : s₂ = ({ (U.calling g mk a).setFrames s₂.frames with heap := s₂.heap, slotsUsed := s₂.slotsUsed } : State).setVm s₂.vm := by
      have : s₂ = ({ s₂ with vm := (U.calling g mk a).vm } : State).setVm s₂.vm := rfl
      rw [e2] at this
      exact this
    obtain ⟨c₂, i₂, len₂, hc₂, hd₂, hf₂⟩ := hend
    have hW' : U.WarmedH s₂.vm := hW₂
    have hcc : c₂ = c := by
      have h1 : s₂.code? g.method = U.code? g.method := by
        rw [State.code?_eq, State.code?_eq, hW'.alike.method?]
      exact Option.some.inj (hc₂.symm.trans (h1.trans h.code))
    subst hcc
    have hlen : len₂ = len := by rw [hdg] at hd₂; cases hd₂; rfl
    subst hlen
    have hs₂ : s₂ = (({ U with heap := s₂.heap, slotsUsed := s₂.slotsUsed } : State).setVm s₂.vm).setTop { g with pc := g.pc + len₂, stack := v.toList ++ g.stack } := by
      refine e3.trans ?_
      rw [hf₂, State.calling_eq h.top, State.setFrames_setFrames, State.setTop_of_frames _ hr', hr]
      rfl
    have hsame : U.sameButNew ({ U with heap := s₂.heap, slotsUsed := s₂.slotsUsed } : State) L mc ms := by
      refine ⟨?_, q2, q3, q4, q5, q6⟩
      obtain ⟨t, ht, -⟩ := State.frames_cons hr
      show ({ U with heap := s₂.heap, slotsUsed := s₂.slotsUsed } : State) = { U.setFrames U.frames with heap := s₂.heap, slotsUsed := s₂.slotsUsed }
      rw [State.setFrames_self ht]
    subst hg
    refine Or.inl ⟨v, ⟨(({ U with heap := s₂.heap, slotsUsed := s₂.slotsUsed } : State).setVm s₂.vm), Ls ++ L, c0 + mc, s0 + ms⟩,
      ⟨X.admits, X.cas, X.clock, X.frames, X.room, X.hears, X.method, X.code, (X.here.setHeapUsed s₂.heap s₂.slotsUsed).setVm hW'.alike, X.tail, State.WarmedH.trans X.warmed hW', X.limits, X.bytes, X.same.trans (hsame.setVm s.vm)⟩,
      ⟨g, mk, s₂, L, rfl, rfl, hqc, rfl, hL, rfl, rfl⟩, ?_⟩
    show Steps p.tables e below _ ((({ U with heap := s₂.heap, slotsUsed := s₂.slotsUsed } : State).setVm s₂.vm).setTop { g with pc := g.pc + len₂, stack := v.toList ++ g.stack })
    rw [← hs₂]
    exact hsteps
  · obtain ⟨e2, q2, q3, q4, q5, q6⟩ := id hsm
    have e3 : s₂ = ({ (U.calling g mk a).setFrames s₂.frames with heap := s₂.heap, slotsUsed := s₂.slotsUsed } : State).setVm s₂.vm := by
      have : s₂ = ({ s₂ with vm := (U.calling g mk a).vm } : State).setVm s₂.vm := rfl
      rw [e2] at this
      exact this
    have hf₂ : s₂.frames = .throwing q :: .java g :: U.frames.tail := hend
    have hW' : U.WarmedH s₂.vm := hW₂
    have hs₂ : s₂ = ((({ U with heap := s₂.heap, slotsUsed := s₂.slotsUsed } : State).setVm s₂.vm).setTop g).pushFrame (.throwing q) := by
      refine e3.trans ?_
      rw [hf₂, State.calling_eq h.top, State.setFrames_setFrames, State.pushFrame, State.frames_setTop _ hr', State.setTop_of_frames _ hr', State.setFrames_setFrames, hr]
      rfl
    have hsame : U.sameButNew ({ U with heap := s₂.heap, slotsUsed := s₂.slotsUsed } : State) L mc ms := by
      refine ⟨?_, q2, q3, q4, q5, q6⟩
      obtain ⟨t, ht, -⟩ := State.frames_cons hr
      show ({ U with heap := s₂.heap, slotsUsed := s₂.slotsUsed } : State) = { U.setFrames U.frames with heap := s₂.heap, slotsUsed := s₂.slotsUsed }
      rw [State.setFrames_self ht]
    subst hg
    refine Or.inr ⟨q, ⟨(({ U with heap := s₂.heap, slotsUsed := s₂.slotsUsed } : State).setVm s₂.vm), Ls ++ L, c0 + mc, s0 + ms⟩,
      ⟨X.admits, X.cas, X.clock, X.frames, X.room, X.hears, X.method, X.code, (X.here.setHeapUsed s₂.heap s₂.slotsUsed).setVm hW'.alike, X.tail, State.WarmedH.trans X.warmed hW', X.limits, X.bytes, X.same.trans (hsame.setVm s.vm)⟩,
      ⟨g, mk, s₂, L, E, ce, rfl, rfl, hx, hce, hcv, hcl, rfl, hL, rfl, rfl⟩, ?_⟩
    show Steps p.tables e below _ (((({ U with heap := s₂.heap, slotsUsed := s₂.slotsUsed } : State).setVm s₂.vm).setTop g).pushFrame (.throwing q))
    rw [← hs₂]
    exact hsteps
end
variable {p : Program} {l : Launch} {e : Env} {R : Room} {s : State} {m : MethodId} {args : Array Value} {below : List Frame} {meth : Method} {c : Code} {T : State} {H : Heap} {locs : List Loc} {cells slots : Nat}
theorem vx_callVX (X : Stand p l e R s m args below meth c T locs cells slots) (hexec : p.tables.exec = Jvm.exec) {own C : String} {index : Nat} {y : MethodName} {bytes : ByteArray} {maxL : Nat} {ret : Option FieldType} {hh : List (Nat × Nat × Nat × Nat)}
    (hown : s.vm.findClass own = some m.cls) (hlink : (Cond.methodLink own index y).before args s = true) (hinst : (Cond.instanceMethod y).before args s = true) (hsel : (Cond.selects C y y).before args s = true)
    (hcode : (Cond.codeWith y bytes maxL ret hh).before args s = true) (hy : y.cls ≠ "java/lang/invoke/MethodHandle" ∧ y.cls ≠ "java/lang/invoke/VarHandle")
    {W9 : Nat} {Pre : Pt → Array Value → Prop} {Post : Pt → Array Value → Option Value → Pt → Prop} {PostX : Pt → Array Value → Addr → Pt → Prop} (hK : vx_Back l R p e below s args y 3 W9 Pre Post PostX)
    {b : Addr} {cellB : Cell} (hcell : T.heap[b]? = some cellB) (hobj : cellB.vm.isStatics = false) (hcls : s.vm.findClass C = some cellB.cls)
    {g : JFrame} (hg : g.method = m) (hsize : g.locals.size = c.maxLocals) {argsL rest : List Value} (hlen : ∀ sig, parseMethodDescriptor y.desc = some sig → argsL.length = sig.parameters.length)
    (hstack : g.stack = argsL.reverse ++ .ref b :: rest) (hW : 2 * g.monitorRoom + (rest.map fun v => v.category).sum ≤ W9) (hdg : decode c.code g.pc = .ok (.invokevirtual index, 3))
    (hpre : ∀ vm₁, s.WarmedH vm₁ → Pre ⟨T.setVm vm₁, locs, cells, slots⟩ (Value.ref b :: argsL).toArray) :
    (∃ (v : Option Value) (vm₁ : Vm) (B : Pt), s.WarmedH vm₁ ∧ Stand p l e R s m args below meth c B.U B.locs B.cells B.slots ∧ Post ⟨T.setVm vm₁, locs, cells, slots⟩ (Value.ref b :: argsL).toArray v B ∧
      ∀ target, Steps p.tables e below (B.U.setTop { g with pc := g.pc + 3, stack := v.toList ++ rest }) target → Steps p.tables e below (T.setTop g) target) ∨
    (∃ (q : Addr) (vm₁ : Vm) (B : Pt), s.WarmedH vm₁ ∧ Stand p l e R s m args below meth c B.U B.locs B.cells B.slots ∧ PostX ⟨T.setVm vm₁, locs, cells, slots⟩ (Value.ref b :: argsL).toArray q B ∧
      Steps p.tables e below (T.setTop g) ((B.U.setTop { g with stack := rest }).pushFrame (.throwing q))) := by
  obtain ⟨mk, methM, hnamed, hmethM, hstM, habM⟩ := Cond.instanceMethod_spec hinst
  obtain ⟨m8, methM', cM, hn8, hmethM', -, -, -, -, -, -, hsigM⟩ := Cond.codeWith_spec hcode
  cases Option.some.inj (hn8.symm.trans hnamed)
  cases hmethM.symm.trans hmethM'
  obtain ⟨c2, r2, m2, q1, q2, q3, q4, kP, hkP, hkPi⟩ := Cond.selects_spec hsel
  cases hcls.symm.trans q1
  cases (State.methodFound?_of_named hnamed hy).symm.trans q2
  cases hnamed.symm.trans q3
  have hselP : selectMethod e.platform s.vm cellB.cls mk = .method mk := by rw [Launch.admits_selectMethod X.admits]; exact q4
  obtain ⟨vm₁, X₁, hstep₁⟩ := X.invokevirtual hexec hown hlink hnamed hmethM hstM hkP hkPi hy (a := b) (cell := cellB) hcell
    (fun z h => by rw [h] at hobj; cases hobj) hselP hmethM habM hkP hkPi (g := g) hg (argsL := argsL) (rest := rest) (hlen _ hsigM) hstack hdg
  rcases hK m meth c ⟨T.setVm vm₁, locs, cells, slots⟩ { g with stack := rest } (.invokevirtual index) mk (Value.ref b :: argsL).toArray X₁ hg hsize hdg hW (X₁.named hnamed) (hpre vm₁ X₁.warmed) with ⟨v, B, X', hpost, hsteps⟩ | ⟨q, B, X', hpost, hsteps⟩
  · exact Or.inl ⟨v, vm₁, B, X₁.warmed, X', hpost, fun target h => hstep₁ _ fun acts => by rw [doInvoke_state]; exact hsteps.trans h⟩
  · exact Or.inr ⟨q, vm₁, B, X₁.warmed, X', hpost, hstep₁ _ fun acts => by rw [doInvoke_state]; exact hsteps⟩
theorem vx_callSX (X : Stand p l e R s m args below meth c T locs cells slots) (hexec : p.tables.exec = Jvm.exec) {own : String} {index : Nat} {y : MethodName} {bytes : ByteArray} {maxL : Nat} {ret : Option FieldType} {hh : List (Nat × Nat × Nat × Nat)}
    (hown : s.vm.findClass own = some m.cls) (hlink : (Cond.methodLink own index y).before args s = true) (hstat : (Cond.static y).before args s = true) (hinit : (Cond.initialized y.cls).before args s = true)
    (hcode : (Cond.codeWith y bytes maxL ret hh).before args s = true) (hy : y.cls ≠ "java/lang/invoke/MethodHandle" ∧ y.cls ≠ "java/lang/invoke/VarHandle")
    {W9 : Nat} {Pre : Pt → Array Value → Prop} {Post : Pt → Array Value → Option Value → Pt → Prop} {PostX : Pt → Array Value → Addr → Pt → Prop} (hK : vx_Back l R p e below s args y 3 W9 Pre Post PostX)
    {g : JFrame} (hg : g.method = m) (hsize : g.locals.size = c.maxLocals) {argsL rest : List Value} (hlen : ∀ sig, parseMethodDescriptor y.desc = some sig → argsL.length = sig.parameters.length)
    (hstack : g.stack = argsL.reverse ++ rest) (hW : 2 * g.monitorRoom + (rest.map fun v => v.category).sum ≤ W9) (hdg : decode c.code g.pc = .ok (.invokestatic index, 3))
    (hpre : ∀ vm₁, s.WarmedH vm₁ → Pre ⟨T.setVm vm₁, locs, cells, slots⟩ argsL.toArray) :
    (∃ (v : Option Value) (vm₁ : Vm) (B : Pt), s.WarmedH vm₁ ∧ Stand p l e R s m args below meth c B.U B.locs B.cells B.slots ∧ Post ⟨T.setVm vm₁, locs, cells, slots⟩ argsL.toArray v B ∧
      ∀ target, Steps p.tables e below (B.U.setTop { g with pc := g.pc + 3, stack := v.toList ++ rest }) target → Steps p.tables e below (T.setTop g) target) ∨
    (∃ (q : Addr) (vm₁ : Vm) (B : Pt), s.WarmedH vm₁ ∧ Stand p l e R s m args below meth c B.U B.locs B.cells B.slots ∧ PostX ⟨T.setVm vm₁, locs, cells, slots⟩ argsL.toArray q B ∧
      Steps p.tables e below (T.setTop g) ((B.U.setTop { g with stack := rest }).pushFrame (.throwing q))) := by
  obtain ⟨mk, methM, cM, hnamed, hmethM, -, -, -, -, -, -, hsigM⟩ := Cond.codeWith_spec hcode
  have hstatic : methM.isStatic = true := Cond.static_spec hnamed hmethM hstat
  obtain ⟨kP, hkP, -⟩ := className_of_methodNamed hnamed
  have hinitP : kP.init = .initialized := Cond.initialized_spec (findClass_of_methodNamed hnamed) hkP hinit
  obtain ⟨vm₁, X₁, hstep₁⟩ := X.invokestatic hexec hown hlink hnamed hmethM hstatic hkP hinitP hy (g := g) hg (argsL := argsL) (rest := rest) (hlen _ hsigM) hstack hdg
  rcases hK m meth c ⟨T.setVm vm₁, locs, cells, slots⟩ { g with stack := rest } (.invokestatic index) mk argsL.toArray X₁ hg hsize hdg hW (X₁.named hnamed) (hpre vm₁ X₁.warmed) with ⟨v, B, X', hpost, hsteps⟩ | ⟨q, B, X', hpost, hsteps⟩
  · exact Or.inl ⟨v, vm₁, B, X₁.warmed, X', hpost, fun target h => hstep₁ _ fun acts => by rw [doInvoke_state]; exact hsteps.trans h⟩
  · exact Or.inr ⟨q, vm₁, B, X₁.warmed, X', hpost, hstep₁ _ fun acts => by rw [doInvoke_state]; exact hsteps⟩
theorem vx_callVW (X : Stand p l e R s m args below meth c T locs cells slots) (hexec : p.tables.exec = Jvm.exec) {own C : String} {index : Nat} {y : MethodName} {bytes : ByteArray} {maxL : Nat} {ret : Option FieldType} {hh : List (Nat × Nat × Nat × Nat)}
    (hown : s.vm.findClass own = some m.cls) (hlink : (Cond.methodLink own index y).before args s = true) (hinst : (Cond.instanceMethod y).before args s = true) (hsel : (Cond.selects C y y).before args s = true)
    (hcode : (Cond.codeWith y bytes maxL ret hh).before args s = true) (hy : y.cls ≠ "java/lang/invoke/MethodHandle" ∧ y.cls ≠ "java/lang/invoke/VarHandle")
    {W9 : Nat} {Pre : Pt → Array Value → Prop} {Post : Pt → Array Value → Option Value → Pt → Prop} (hK : Back l R p e below s args y 3 W9 Pre Post)
    {b : Addr} {cellB : Cell} (hcell : T.heap[b]? = some cellB) (hobj : cellB.vm.isStatics = false) (hcls : s.vm.findClass C = some cellB.cls)
    {g : JFrame} (hg : g.method = m) (hsize : g.locals.size = c.maxLocals) {argsL rest : List Value} (hlen : ∀ sig, parseMethodDescriptor y.desc = some sig → argsL.length = sig.parameters.length)
    (hstack : g.stack = argsL.reverse ++ .ref b :: rest) (hW : 2 * g.monitorRoom + (rest.map fun v => v.category).sum ≤ W9) (hdg : decode c.code g.pc = .ok (.invokevirtual index, 3))
    (hpre : ∀ vm₁, s.WarmedH vm₁ → Pre ⟨T.setVm vm₁, locs, cells, slots⟩ (Value.ref b :: argsL).toArray) :
    ∃ (v : Option Value) (vm₁ : Vm) (B : Pt), s.WarmedH vm₁ ∧ Stand p l e R s m args below meth c B.U B.locs B.cells B.slots ∧ Post ⟨T.setVm vm₁, locs, cells, slots⟩ (Value.ref b :: argsL).toArray v B ∧
      ∀ target, Steps p.tables e below (B.U.setTop { g with pc := g.pc + 3, stack := v.toList ++ rest }) target → Steps p.tables e below (T.setTop g) target := by
  obtain ⟨mk, methM, hnamed, hmethM, hstM, habM⟩ := Cond.instanceMethod_spec hinst
  obtain ⟨m8, methM', cM, hn8, hmethM', -, -, -, -, -, -, hsigM⟩ := Cond.codeWith_spec hcode
  cases Option.some.inj (hn8.symm.trans hnamed)
  cases hmethM.symm.trans hmethM'
  obtain ⟨c2, r2, m2, q1, q2, q3, q4, kP, hkP, hkPi⟩ := Cond.selects_spec hsel
  cases hcls.symm.trans q1
  cases (State.methodFound?_of_named hnamed hy).symm.trans q2
  cases hnamed.symm.trans q3
  have hselP : selectMethod e.platform s.vm cellB.cls mk = .method mk := by rw [Launch.admits_selectMethod X.admits]; exact q4
  obtain ⟨vm₁, X₁, hstep₁⟩ := X.invokevirtual hexec hown hlink hnamed hmethM hstM hkP hkPi hy (a := b) (cell := cellB) hcell
    (fun z h => by rw [h] at hobj; cases hobj) hselP hmethM habM hkP hkPi (g := g) hg (argsL := argsL) (rest := rest) (hlen _ hsigM) hstack hdg
  obtain ⟨v, B, X', hpost, hsteps⟩ := hK m meth c ⟨T.setVm vm₁, locs, cells, slots⟩ { g with stack := rest } (.invokevirtual index) mk (Value.ref b :: argsL).toArray X₁ hg hsize hdg hW (X₁.named hnamed) (hpre vm₁ X₁.warmed)
  exact ⟨v, vm₁, B, X₁.warmed, X', hpost, fun target h => hstep₁ _ fun acts => by rw [doInvoke_state]; exact hsteps.trans h⟩
abbrev vx_CVW (R : Room) (s : State) (args : Array Value) (own C : String) (index : Nat) (y : MethodName) (bytes : ByteArray) (maxL : Nat) (ret : Option FieldType) (hh : List (Nat × Nat × Nat × Nat)) (ws : List Cond) (rm : Room) (mc ms n : Nat) : Prop :=
  (rm.cells = mc ∧ rm.slots = ms ∧ rm.frames + 1 ≤ R.frames ∧ 8 + (maxL + 11) + rm.locals ≤ R.locals ∧ (∀ w ∈ ws, ∀ (a' : Array Value) (U : State), s.WarmedH U.vm → w.before a' U = true) ∧ Cond.codeWith y bytes maxL ret hh ∈ ws) ∧
  (Cond.codeWith y bytes maxL ret hh).before args s = true ∧ (Cond.initialized y.cls).before args s = true ∧ (y.cls ≠ "java/lang/invoke/MethodHandle" ∧ y.cls ≠ "java/lang/invoke/VarHandle") ∧
  (∀ sig, parseMethodDescriptor y.desc = some sig → n = sig.parameters.length) ∧ (Cond.methodLink own index y).before args s = true ∧ (Cond.instanceMethod y).before args s = true ∧ (Cond.selects C y y).before args s = true
theorem vx_cwVW {own C : String} {index maxL mc ms : Nat} {y : MethodName} {bytes : ByteArray} {ret : Option FieldType} {hh : List (Nat × Nat × Nat × Nat)} {Ts ws ws' : List Cond} {rm : Room} (n : Nat) (ht : ∀ w ∈ Ts, w.before args s = true) (hT : GoodIn Ts (wsV own index C y ws)) (hw : ws = Cond.codeWith y bytes maxL ret hh :: ws') (hrc : rm.cells = mc) (hrs : rm.slots = ms)
    (hd : y.cls = C ∧ y.cls ≠ "java/lang/invoke/MethodHandle" ∧ y.cls ≠ "java/lang/invoke/VarHandle" ∧ (parseMethodDescriptor y.desc).map (fun d => d.parameters.length) = some n) (hR : rm.frames + 1 ≤ R.frames ∧ 8 + (maxL + 11) + rm.locals ≤ R.locals) :
    vx_CVW R s args own C index y bytes maxL ret hh ws rm mc ms n := by
  obtain ⟨hC, hd⟩ := hd
  subst hC
  have ok : ∀ w ∈ wsV own index y.cls y ws, w.before args s = true := fun w h => ht w (hT w h).1
  have hG : GoodIn Ts ws := fun w h => hT w (by unfold wsV; exact List.mem_append_right _ h)
  have hc : Cond.codeWith y bytes maxL ret hh ∈ ws := by rw [hw]; exact List.mem_cons_self
  refine ⟨⟨hrc, hrs, hR.1, hR.2, pay_in ht hG, hc⟩, ht _ (hG _ hc).1, ok _ (by simp [wsV]), ⟨hd.1, hd.2.1⟩, fun sig h => ?_, ok _ (by simp [wsV]), ok _ (by simp [wsV]), ok _ (by simp [wsV])⟩
  have h2 := hd.2.2
  rw [h] at h2
  exact (Option.some.inj h2).symm
theorem vx_runVW {y : MethodName} {bytes cc : ByteArray} {maxL nL mc ms n index : Nat} {ret : Option FieldType} {hh : List (Nat × Nat × Nat × Nat)} {ws : List Cond} {rm : Room} {Pc : Array Value → State → Prop} {Qc : Array Value → State → Outcome → State → Prop} {free : Addr → Prop} {Ts : List Cond} {own C : String} {b : Addr} {As rest : List Value} {g : JFrame}
    (S : CallFix p m c cc nL s args Ts own) (hM : Met l y ws rm Pc Qc mc ms free) (cw : vx_CVW R s args own C index y bytes maxL ret hh ws rm mc ms n) (hp : PreV s H C b Pc As)
    (hg : g.method = m) (hn : As.length = n) (hsize : g.locals.size = nL) (hstack : g.stack = As.reverse ++ .ref b :: rest) (hW : 2 * g.monitorRoom + (rest.map fun v => v.category).sum ≤ 8) (hdg : decode cc g.pc = .ok (.invokevirtual index, 3)) (hf : cells + mc ≤ R.cells ∧ slots + ms ≤ R.slots) :
    va_Run p l e R s m args below meth c H locs cells slots mc ms g rest (Qc (Value.ref b :: As).toArray) free := by
  obtain ⟨⟨hrc, hrs, hfr, hlo, hws, hcw⟩, hcode, hini, hy, hlen, hl, hin, hse⟩ := cw
  have hK : Back l R p e below s args y 3 8 (PreOf R mc ms Pc) (PostOf Qc mc ms free) := va_backW (hh := hh) (bytes := bytes) (maxL := maxL) (ret := ret) hM hp.1 hrc hrs hfr hlo hws hcw (fun a' U hW => word_at hW (Or.inl (by first | rfl | simp [Cond.onTables, Cond.keeps, Cond.steady])) hini)
  obtain ⟨hx, hb, hml, ho, -⟩ := S
  obtain ⟨-, ⟨cellB, hcB, hoB, hclB⟩, hPc⟩ := hp
  intro T hT X
  obtain ⟨v, vm₁, ⟨U', l2, c2, s2⟩, hW₁, X', ⟨g', mk, t, L, e1, e2, hq, h1, hL, h2, h3⟩, st⟩ := vx_callVW X hx (C := C) (hh := hh) (bytes := bytes) (maxL := maxL) (ret := ret) ho hl hin hse hcode hy hK (by rw [hT]; exact hcB) hoB hclB hg (hsize.trans hml.symm) (argsL := As) (rest := rest) (fun sig h => hn.trans (hlen sig h)) hstack hW (by rw [hb]; exact hdg)
    (fun vm₁ hW₁ => ⟨hf.1, hf.2, hPc (T.setVm vm₁) hT hW₁⟩)
  dsimp only [Pt.U, Pt.locs, Pt.cells, Pt.slots] at X' e1 e2 h1 h2 h3 st
  subst h1; subst h2; subst h3
  exact ⟨v, (T.setVm vm₁).calling g' mk (Value.ref b :: As).toArray, t, U', L, hT, X', hL, e1, e2, hq, st⟩
section
variable {y : MethodName} {bytes cc : ByteArray} {maxL nL mc ms n index : Nat} {ret : Option FieldType} {ws : List Cond} {rm : Room} {Pc : Array Value → State → Prop} {Qc : Array Value → State → Outcome → State → Prop} {XC : String → State → State → Prop} {free : Addr → Prop} {Ts : List Cond} {own C : String} {b : Addr} {As rest : List Value} {g : JFrame}
theorem vx_runVX {hh : List (Nat × Nat × Nat × Nat)} (S : CallFix p m c cc nL s args Ts own) (hM : vx_Met l y ws rm Pc Qc XC mc ms free) (cw : vx_CVW R s args own C index y bytes maxL ret hh ws rm mc ms n) (hp : PreV s H C b Pc As)
    (hg : g.method = m) (hn : As.length = n) (hsize : g.locals.size = nL) (hstack : g.stack = As.reverse ++ .ref b :: rest) (hW : 2 * g.monitorRoom + (rest.map fun v => v.category).sum ≤ 8) (hdg : decode cc g.pc = .ok (.invokevirtual index, 3)) (hf : cells + mc ≤ R.cells ∧ slots + ms ≤ R.slots) :
    vx_Run p l e R s m args below meth c H locs cells slots mc ms g rest (Qc (Value.ref b :: As).toArray) XC free := by
  obtain ⟨⟨hrc, hrs, hfr, hlo, hws, hcw⟩, hcode, hini, hy, hlen, hl, hin, hse⟩ := cw
  have hK : vx_Back l R p e below s args y 3 8 (PreOf R mc ms Pc) (PostOf Qc mc ms free) (vx_Post XC mc ms free) := vx_backW (hh := hh) (bytes := bytes) (maxL := maxL) (ret := ret) hM hp.1 hrc hrs hfr hlo hws hcw (fun a' U hW => word_at hW (Or.inl (by first | rfl | simp [Cond.onTables, Cond.keeps, Cond.steady])) hini)
  obtain ⟨hx, hb, hml, ho, -⟩ := S
  obtain ⟨-, ⟨cellB, hcB, hoB, hclB⟩, hPc⟩ := hp
  intro T hT X
  rcases vx_callVX X hx (C := C) (hh := hh) (bytes := bytes) (maxL := maxL) (ret := ret) ho hl hin hse hcode hy hK (by rw [hT]; exact hcB) hoB hclB hg (hsize.trans hml.symm) (argsL := As) (rest := rest) (fun sig h => hn.trans (hlen sig h)) hstack hW (by rw [hb]; exact hdg)
    (fun vm₁ hW₁ => ⟨hf.1, hf.2, hPc (T.setVm vm₁) hT hW₁⟩) with ⟨v, vm₁, ⟨U', l2, c2, s2⟩, hW₁, X', ⟨g', mk, t, L, e1, e2, hq, h1, hL, h2, h3⟩, st⟩ | ⟨q, vm₁, ⟨U', l2, c2, s2⟩, hW₁, X', ⟨g', mk, t, L, E, ce, e1, e2, hq, hce, hcv, hcl, h1, hL, h2, h3⟩, st⟩
  · dsimp only [Pt.U, Pt.locs, Pt.cells, Pt.slots] at X' e1 e2 h1 h2 h3 st
    subst h1; subst h2; subst h3
    exact Or.inl ⟨v, (T.setVm vm₁).calling g' mk (Value.ref b :: As).toArray, t, U', L, hT, X', hL, e1, e2, hq, st⟩
  · dsimp only [Pt.U, Pt.locs, Pt.cells, Pt.slots] at X' e1 e2 h1 h2 h3 st hcl
    subst h1; subst h2; subst h3
    exact Or.inr ⟨q, (T.setVm vm₁).calling g' mk (Value.ref b :: As).toArray, t, U', L, E, ce, hT, X', hL, e1, e2, hq, hce, hcv, vx_cls hW₁ hcl, st⟩
theorem vx_runSX {hh : List (Nat × Nat × Nat × Nat)} (S : CallFix p m c cc nL s args Ts own) (hM : vx_Met l y ws rm Pc Qc XC mc ms free) (cw : vx_CSW R s args own index y bytes maxL ret hh ws rm mc ms n) (hp : PreS s H Pc As)
    (hg : g.method = m) (hn : As.length = n) (hsize : g.locals.size = nL) (hstack : g.stack = As.reverse ++ rest) (hW : 2 * g.monitorRoom + (rest.map fun v => v.category).sum ≤ 8) (hdg : decode cc g.pc = .ok (.invokestatic index, 3)) (hf : cells + mc ≤ R.cells ∧ slots + ms ≤ R.slots) :
    vx_Run p l e R s m args below meth c H locs cells slots mc ms g rest (Qc As.toArray) XC free := by
  obtain ⟨⟨hrc, hrs, hfr, hlo, hws, hcw⟩, hcode, hini, hy, hlen, hl, hstt⟩ := cw
  have hK : vx_Back l R p e below s args y 3 8 (PreOf R mc ms Pc) (PostOf Qc mc ms free) (vx_Post XC mc ms free) := vx_backW (hh := hh) (bytes := bytes) (maxL := maxL) (ret := ret) hM hp.1 hrc hrs hfr hlo hws hcw (fun a' U hW => word_at hW (Or.inl (by first | rfl | simp [Cond.onTables, Cond.keeps, Cond.steady])) hini)
  obtain ⟨hx, hb, hml, ho, -⟩ := S
  intro T hT X
  rcases vx_callSX X hx (hh := hh) (bytes := bytes) (maxL := maxL) (ret := ret) ho hl hstt hini hcode hy hK hg (hsize.trans hml.symm) (argsL := As) (rest := rest) (fun sig h => hn.trans (hlen sig h)) hstack hW (by rw [hb]; exact hdg)
    (fun vm₁ hW₁ => ⟨hf.1, hf.2, hp.2 (T.setVm vm₁) hT hW₁⟩) with ⟨v, vm₁, ⟨U', l2, c2, s2⟩, hW₁, X', ⟨g', mk, t, L, e1, e2, hq, h1, hL, h2, h3⟩, st⟩ | ⟨q, vm₁, ⟨U', l2, c2, s2⟩, hW₁, X', ⟨g', mk, t, L, E, ce, e1, e2, hq, hce, hcv, hcl, h1, hL, h2, h3⟩, st⟩
  · dsimp only [Pt.U, Pt.locs, Pt.cells, Pt.slots] at X' e1 e2 h1 h2 h3 st
    subst h1; subst h2; subst h3
    exact Or.inl ⟨v, (T.setVm vm₁).calling g' mk As.toArray, t, U', L, hT, X', hL, e1, e2, hq, st⟩
  · dsimp only [Pt.U, Pt.locs, Pt.cells, Pt.slots] at X' e1 e2 h1 h2 h3 st hcl
    subst h1; subst h2; subst h3
    exact Or.inr ⟨q, (T.setVm vm₁).calling g' mk As.toArray, t, U', L, E, ce, hT, X', hL, e1, e2, hq, hce, hcv, vx_cls hW₁ hcl, st⟩
end
end VXH
theorem vx_ofWH {l : Launch} {y : MethodName} {ws ws' : List Cond} {rm : Room} {Pc : Array Value → State → Prop} {Qc : Array Value → State → Outcome → State → Prop} {XC : String → State → State → Prop} {mc ms : Nat} {free : Addr → Prop} {cc : ByteArray} {maxL : Nat} {ret : Option FieldType} {hh : List (Nat × Nat × Nat × Nat)}
    (hy : plainName y.cls = true) (hw : ws = Cond.codeWith y cc maxL ret hh :: ws')
    (body : ∀ p e s m args below meth c s₁, BodyLoose p l y (headSpec ws rm) cc maxL ret e s m args below meth c s₁ → c.maxLocals = maxL → Pc args s →
      W p l e (headSpec ws rm).room s m args below meth c s.heap [] 0 0 (vx_MQ below Qc XC args s mc ms free) (entryFrame m args maxL)) : vx_Met l y ws rm Pc Qc XC mc ms free := by
  refine MetFree.of_bodyS (code := cc) (maxLocals := maxL) (ret := ret) hy ?_ ?_
  · intro args s m h hn
    obtain ⟨m9, meth, c, hn9, h1, h2, h3, h4, -, h5, h6, -⟩ := Cond.codeWith_spec (atoms_spec (ws := ws) h _ (by rw [hw]; exact List.mem_cons_self))
    cases hn.symm.trans hn9
    exact ⟨meth, c, h1, h2, h3, h4, h5, h6⟩
  · intro p e s m args below meth c s₁ B hml hP _
    have hh0 : s₁.heap = s.heap := by rw [B.state]; rfl
    obtain ⟨t, a1, o, b1, b2, b3⟩ := body p e s m args below meth c s₁ B hml hP s₁ hh0 (Stand.of_body B)
    exact ⟨t, o, a1, b1, b2, b3⟩
/-! ===== END ===== -/
end
section
/-! Methods of the class that throw: from the pure body contract to the machine's. -/
def jx_sl : List (Nat × String) := [(60, "a byte is 0 .. 255"), (67, "the document is full"), (70, "the document is empty"), (84, "no such page or dot"), (90, "a blot is 1 .. 18 wide and high"), (109, "no such page"), (111, "a page is turned 0 .. 3 times"), (125, "no such row"), (138, "too few pages are kept"), (148, "no such byte was rebuilt")]
def jx_xr (x : Nat) : Nat × Nat × String := match x with
  | 0 => (58, 62, "java/lang/IllegalArgumentException")
  | 1 => (65, 69, "java/lang/IllegalStateException")
  | _ => (146, 150, "java/lang/IndexOutOfBoundsException")
def jx_xn : List String := ["java/lang/RuntimeException", "java/lang/Exception"]
def jx_xa (x : Nat) : List Cond := vx_atS "DotVault" (jx_xr x).2.1 (jx_xr x).2.2 jx_xn
def jx_xd : List MethodName := [Bundle.initS "java/lang/RuntimeException", Bundle.initS "java/lang/Exception", Bundle.initS Bundle.tN]
def jx_xB (x : Nat) : List Cond := Cond.castable (jx_xr x).2.2 (jx_xr x).2.2 :: jx_xd.map (fun y => Cond.declares y)
def jx_xw1 (x : Nat) : List Cond := .classLink "DotVault" (jx_xr x).1 (jx_xr x).2.2 :: .initialized (jx_xr x).2.2 :: (jx_xa x).filter goodWord
theorem jx_xa_bad : ∀ x, x < 3 → (((jx_xa x).filter (fun w => !goodWord w)).all (fun w => decide (w ∈ jx_xB x)) && (Cond.classLink "DotVault" (jx_xr x).1 (jx_xr x).2.2 :: .initialized (jx_xr x).2.2 :: jx_xa x).all vx_ot) = true := by decide +kernel
def jx_xw : List Cond := (List.range 3).flatMap jx_xw1
theorem jx_xw_good : jx_xw.all goodWord = true := by decide +kernel
def jx_sck (κ : Nat) (e : Nat × Instr × Nat × List Nat) : Bool := match e with
  | (pc, .new idx, _, _) => match jx_ex 0 idx with
    | some x => jx_sl.any (fun q => decide (decode (jx_cd κ) (pc + 3) = .ok (.dup, 1)) && decide (decode (jx_cd κ) (pc + 4) = .ok (.ldc q.1, 2)) && decide (decode (jx_cd κ) (pc + 6) = .ok (.invokespecial (jx_xr x).2.1, 3)) && decide (decode (jx_cd κ) (pc + 9) = .ok (.athrow, 1)) && Nat.beq idx (jx_xr x).1 && Nat.blt x 3)
    | none => true
  | _ => true
def jx_xl : List Nat := [2, 45, 48, 76, 77, 78, 107, 108, 111]
theorem jx_sck_ok : jx_xl.all (fun κ => (jx_tb κ).all (jx_sck κ) && Nat.beq (jx_ow κ) 0 && Nat.blt κ jx_nn) = true := by decide +kernel
/-- what a throw asks of the state beside words: two statics, the texts -/
def jx_XS (A : Nat → Prop) (U : State) (H : Heap) : Prop := vx_Zq Bundle.tN "UNASSIGNED_STACK" Bundle.steD A U H ∧ vx_Zq Bundle.tN "SUPPRESSED_SENTINEL" Bundle.listD A U H ∧ (∀ q ∈ jx_sl, ∃ sa, vk_R "DotVault" q.1 q.2 sa U) ∧ (∀ x, x < 3 → va_Nw (.castable (jx_xr x).2.2 (jx_xr x).2.2) U) ∧ (∀ y ∈ jx_xd, va_Nw (.declares y) U) ∧ va_Nc (jx_xr 1).2.2 (jx_xr 0).2.2 U
theorem jx_Nw_D {y : MethodName} {s U : State} (hW : s.WarmedH U.vm) (hZ : va_Nw (.declares y) s) : va_Nw (.declares y) U := va_tabs rfl (rfl : (s.setVm U.vm).vm = U.vm) (by rw [Cond.declares_setVm hW.alike]; exact hZ)
theorem jx_XS.kept {A : Nat → Prop} {U : State} {H H1 : Heap} (h : jx_XS A U H) (hq : ∀ a : Nat, a < H.size → ¬ A a → H1[a]? = H[a]?) : jx_XS A U H1 := ⟨h.1.kept hq, h.2.1.kept hq, h.2.2⟩
theorem jx_XS.narrow {A B : Nat → Prop} {U : State} {H : Heap} (h : jx_XS A U H) (hAB : ∀ q, B q → A q) : jx_XS B U H := ⟨h.1.narrow hAB, h.2.1.narrow hAB, h.2.2⟩
theorem jx_XS.warm {A : Nat → Prop} {s U : State} {H : Heap} (hW : s.WarmedH U.vm) (h : jx_XS A s H) : jx_XS A U H := ⟨h.1.moved hW.alike, h.2.1.moved hW.alike, fun q hq => by
  obtain ⟨sa, hs⟩ := h.2.2.1 q hq
  exact ⟨sa, hs.warm hW⟩, fun x hx => va_Nw.warmC hW (h.2.2.2.1 x hx), fun y hy => jx_Nw_D hW (h.2.2.2.2.1 y hy), h.2.2.2.2.2.moved hW.alike⟩
def jx_XC (G : jxG) (A : Nat → Prop) (TH : Nat → jxH → Prop) : String → State → State → Prop := fun E st t => ∃ (x : Nat) (h' : jxH), x < 3 ∧ TH x h' ∧ E = (jx_xr x).2.2 ∧ jx_PX G h' t ∧ va_F A st t
def jx_rx (κ : Nat) : Room := { frames := max 6 (jx_dp κ), cells := 1, slots := 6, locals := max 82 (jx_lc κ) }
def jx_wx (κ : Nat) : List Cond := .code (jx_nm κ) (jx_cd κ) (jx_mx κ) (jx_rt κ) :: (jx_all ++ jx_xw)
def jx_MX (κ : Nat) (as : List jxV) (h : jxH) (E : Int32 → jxH → Prop) (TH : Nat → jxH → Prop) : Prop :=
  ∀ (l : Launch) (G : jxG) (sz : Nat), l.stackTraces = false → (∀ v ∈ as, jx_ok v) → (∀ v ∈ as, jx_w1 v) → vx_Met l (jx_nm κ) (jx_wx κ) (jx_rx κ) (va_Pc (as.map (jx_cv G)) (fun U => U.heap.size = sz ∧ jx_PX G h U ∧ jx_XS (va_A (jx_ws G h) U.heap.size) U U.heap)) (jx_Qc G κ (va_A (jx_ws G h) sz) E) (jx_XC G (va_A (jx_ws G h) sz) TH) 1 6 (va_A (jx_ws G h) sz)
theorem jx_MX_by {κ : Nat} {as : List jxV} {h : jxH} {E : Int32 → jxH → Prop} {TH : Nat → jxH → Prop} (hκl : κ ∈ jx_xl) (hn : as.length ≤ jx_mx κ) (hB : jx_BD κ as h E TH) : jx_MX κ as h E TH := by
  have hck := List.all_eq_true.mp jx_sck_ok κ hκl
  rw [Bool.and_eq_true, Bool.and_eq_true] at hck
  obtain ⟨⟨hck, how⟩, hκ⟩ := hck
  have hκ : κ < jx_nn := by simpa [Nat.blt_eq] using hκ
  have how := Nat.eq_of_beq_eq_true how
  intro l G sz hst hok hk1
  refine vx_ofW (cc := jx_cd κ) (maxL := jx_mx κ) (ret := jx_rt κ) (jx_plain hκ) rfl ?_
  intro p e s m args below meth c s₁ B hml htab hv
  obtain ⟨rfl, hsz, ⟨hP, hK, hD0, hSF⟩, hXS⟩ := hv
  subst hsz
  have hD := hD0.self (sz := s.heap.size)
  have hws : ∀ w ∈ jx_wx κ, w.before ((as.map (jx_cv G)).toArray) s = true := atoms_spec (ws := jx_wx κ) B.pre
  have X : jx_X p (headSpec (jx_wx κ) (jx_rx κ)).room s m ((as.map (jx_cv G)).toArray) meth c G (va_A (jx_ws G h) s.heap.size) κ 0 0 := by
    refine ⟨B.exec, B.bytes, hml, findClass_of_methodNamed B.named, fun w hw => hws w (List.mem_cons_of_mem _ (List.mem_append_left _ hw)), hK, fun h' => jx_D_any hD, hSF, fun h' sz' q hsz' hq => ?_, B.returns, B.notSynchronized, jx_nnt hκ, Nat.le_max_right _ _, Nat.le_max_right _ _, Nat.zero_le _, Nat.zero_le _⟩
    rcases jx_A_any (h' := h) hq with h1 | h1
    · exact Or.inl h1
    · exact Or.inr (Nat.le_trans hsz' h1)
  have hl := lv_entry (as.map (jx_cv G)) (n := jx_mx κ) (by rw [jx_sl_len G as hk1]; exact hn)
  rw [lg_entry_eq]
  have hmem : ∀ (j : Nat) (v : jxV), (as.map some ++ List.replicate (jx_mx κ - as.length) none)[j]? = some (some v) → as[j]? = some v := by
    intro j v hj
    by_cases hja : j < as.length
    · rw [List.getElem?_append_left (by simpa using hja), List.getElem?_map] at hj
      cases ha : as[j]? with
      | none => rw [ha] at hj; cases hj
      | some w => rw [ha] at hj; cases hj; rfl
    · rw [List.getElem?_append_right (by simpa using hja)] at hj
      have := List.mem_of_getElem? hj
      rw [List.mem_replicate] at this
      cases this.2
  have hfin : ∀ t, MQ below (jx_Qc G κ (va_A (jx_ws G h) s.heap.size) E) ((as.map (jx_cv G)).toArray) s 0 0 (va_A (jx_ws G h) s.heap.size) t → vx_MQ below (jx_Qc G κ (va_A (jx_ws G h) s.heap.size) E) (jx_XC G (va_A (jx_ws G h) s.heap.size) TH) ((as.map (jx_cv G)).toArray) s 1 6 (va_A (jx_ws G h) s.heap.size) t := by
    rintro t ⟨o, h1, h2, h3, L, h4, h5⟩
    exact ⟨o, h1, h2, Or.inl ⟨h3, L, ⟨h4.1, h4.2.1, h4.2.2.mono (by decide) (by decide)⟩, h5⟩⟩
  have hth : ∀ pc nx idx tg ls h' x, jx_ent κ pc = some (.new idx, nx, tg) → jx_ex (jx_ow κ) idx = some x → TH x h' → jx_V p l e (headSpec (jx_wx κ) (jx_rx κ)).room s m ((as.map (jx_cv G)).toArray) below meth c G (va_A (jx_ws G h) s.heap.size) κ 0 0 (vx_MQ below (jx_Qc G κ (va_A (jx_ws G h) s.heap.size) E) (jx_XC G (va_A (jx_ws G h) s.heap.size) TH) ((as.map (jx_cv G)).toArray) s 1 6 (va_A (jx_ws G h) s.heap.size)) pc ls [] h' := by
    intro pc nx idx tg ls h' x hent hex hT H locs la hlo hst9 hls hP' hS
    rw [how] at hex
    have hc := List.all_eq_true.mp hck _ (jx_ent_in hent)
    simp only [jx_sck, hex, List.any_eq_true, Bool.and_eq_true, decide_eq_true_eq] at hc
    obtain ⟨q, hq, ⟨⟨⟨⟨c3, c4⟩, c6⟩, c9⟩, cx⟩, c33⟩ := hc
    have cx := Nat.eq_of_beq_eq_true cx
    have cl3 : x < 3 := by simpa [Nat.blt_eq] using c33
    subst cx
    obtain ⟨hexec, hb, -, hown, -, hK9, hD9, hSF9, hAw, -, hlk, -⟩ := X
    rw [how] at hown
    have hdec := ((jx_ent_ok (jx_nnt hκ) hent).1 (show 0 < 3 by decide)).1
    have hw1 : ∀ w ∈ jx_xw1 x, w ∈ jx_xw := fun w hw => List.mem_flatMap.mpr ⟨x, List.mem_range.mpr cl3, hw⟩
    have hwb : ∀ w ∈ jx_xw1 x, w.before ((as.map (jx_cv G)).toArray) s = true := fun w hw => hws w (List.mem_cons_of_mem _ (List.mem_append_right _ (hw1 w hw)))
    obtain ⟨sa, hsa⟩ := hXS.2.2.1 q hq
    have hsize : la.size = c.maxLocals := by
      obtain ⟨-, lv, h1, -⟩ := hlo
      rw [hml]; exact h1.1
    have hbad := jx_xa_bad x cl3
    rw [Bool.and_eq_true] at hbad
    have hfit : Bundle.fit (jx_xr x).2.2 = true := by
      rcases (show x = 0 ∨ x = 1 ∨ x = 2 by omega) with rfl | rfl | rfl <;> decide +kernel
    refine vx_throwS (own := "DotVault") (cls := (jx_xr x).2.2) (names := jx_xn) (ik := (jx_xr x).1) (is := q.1) (ic := (jx_xr x).2.1) (text := q.2) (sa := sa) (A := va_A (jx_ws G h) s.heap.size) hexec hb hst hown hfit (by decide +kernel) (hwb _ List.mem_cons_self) (hwb _ (List.mem_cons_of_mem _ List.mem_cons_self)) hsa (vx_hat (L := jx_xa x) (B := jx_xB x) (fun w hw => hwb w (List.mem_cons_of_mem _ (List.mem_cons_of_mem _ hw))) (fun w hw => of_decide_eq_true (List.all_eq_true.mp hbad.1 w hw)) (fun w hw => by
      rcases List.mem_cons.mp hw with rfl | hw
      · exact va_Nw.use (A := (as.map (jx_cv G)).toArray) rfl (hXS.2.2.2.1 x cl3)
      · obtain ⟨y, hy, rfl⟩ := List.mem_map.mp hw
        exact va_Nw.use (A := (as.map (jx_cv G)).toArray) rfl (hXS.2.2.2.2.1 y hy))) (fun w hw => List.all_eq_true.mp hbad.2 w hw) hXS.1 hXS.2.1 hS hsize hdec c3 c4 c6 c9 (fun z hz => (htab z hz).elim) ?_ ?_ (show 0 + 1 ≤ 1 by decide) (show 0 + 6 ≤ 6 by decide) hlk (fun t hal hsz hkp => ?_) hS.2.2 (by decide) (by decide)
    · show 5 < max 6 (jx_dp κ)
      omega
    · show 0 + 82 ≤ max 82 (jx_lc κ)
      omega
    · have hP2 : va_P G.1 jx_cl (jx_ws G h') t.heap := hP'.kept (fun k q hk => hkp q.1 ((hP' k q hk).lt))
      refine ⟨x, h', cl3, hT, rfl, ⟨hP2, va_K.moved hal hK9, (hD9 h').weaken (fun _ _ _ _ => trivial), ?_⟩, Nat.le_trans hS.1 hsz, fun a h1 h2 => ?_⟩
      · have hkk : ∀ a : Nat, a < s.heap.size → ¬ va_A (jx_ws G h) s.heap.size a → t.heap[a]? = s.heap[a]? := fun a h1 h2 => (hkp a (Nat.lt_of_lt_of_le h1 hS.1)).trans (hS.2.1 a h1 h2)
        exact jx_SF_narrow (jx_SF_moved hal (jx_SF_kept hSF9 hkk)) (fun q hq => hAw h' t.heap.size q (Nat.le_trans hS.1 hsz) hq)
      · exact (hkp a (Nat.lt_of_lt_of_le h1 hS.1)).trans (hS.2.1 a h1 h2)
  refine hB (jx_V p l e _ s m _ below meth c G _ κ 0 0 _) (fun cut n pc ls st h hb => jx_blk_ok X hfin hth cut n pc ls st h hb) s.heap [] _ ⟨?_, _, hl, fun j v hj => ?_⟩ (fun v hv => by cases hv) (fun j v hj => hok v (List.mem_of_getElem? (hmem j v hj))) hP va_S.rf
  · simp
    omega
  · have := jx_args_mem G as 0 j v hk1 (hmem j v hj)
    rw [Nat.zero_add] at this
    exact ⟨this, hk1 v (List.mem_of_getElem? (hmem j v hj))⟩
theorem jx_MX_mono {κ : Nat} {as : List jxV} {h : jxH} {E E' : Int32 → jxH → Prop} {TH TH' : Nat → jxH → Prop} (hM : jx_MX κ as h E TH) (hE : ∀ r h', E r h' → E' r h') (hT : ∀ x h', TH x h' → TH' x h') : jx_MX κ as h E' TH' := by
  intro l G sz hst hok hk1 p e ha hc hk s m args below hf happ hP hK
  obtain ⟨n, o, h1, h2, h3, h4⟩ := hM l G sz hst hok hk1 p e ha hc hk s m args below hf happ hP hK
  refine ⟨n, o, h1, h2, h3, ?_⟩
  rcases h4 with ⟨⟨⟨r, h', e1, e2, e3⟩, e4⟩, h5⟩ | ⟨q, e1, E9, ce, L, ⟨x, h', e0, e2, e3, e4⟩, h6⟩
  · exact Or.inl ⟨⟨⟨r, h', e1, hE r h' e2, e3⟩, e4⟩, h5⟩
  · exact Or.inr ⟨q, e1, E9, ce, L, ⟨x, h', e0, hT x h' e2, e3, e4⟩, h6⟩
theorem jx_BM_MX {κ : Nat} {as : List jxV} {h : jxH} {E : Int32 → jxH → Prop} {TH : Nat → jxH → Prop} (hκl : κ ∈ jx_xl) (hn : as.length ≤ jx_mx κ) (hB : jx_BM κ as h E TH) : jx_MX κ as h E TH := by
  obtain ⟨E0, T0, h1, h2, h3⟩ := hB
  exact jx_MX_mono (jx_MX_by hκl hn h1) h2 h3
end
section
/-! The law's wrappers. -/
def jx_lmk : List (Nat × Nat) := [(7, 2), (17, 107), (21, 77), (25, 76), (29, 78), (33, 111), (37, 45), (40, 108), (43, 48)]
def jx_lw : List Cond := [.classLink "DotVaultLaw" 13 (jx_xr 0).2.2, .classLink "DotVaultLaw" 15 (jx_xr 1).2.2, .classLink "DotVaultLaw" 46 (jx_xr 2).2.2] ++ jx_lmk.map (fun q => .methodLink "DotVaultLaw" q.1 (jx_nm q.2))
def jx_tw : List Cond := jx_all ++ (jx_xw ++ jx_lw)
theorem jx_lw_good : jx_lw.all goodWord = true := by decide +kernel
theorem jx_goodX {κ : Nat} (h : κ < jx_nn) : GoodIn jx_tw (jx_wx κ) := by
  intro w hw
  rcases List.mem_cons.mp hw with rfl | h1
  · exact ⟨List.mem_append_left _ (jx_code_in h), Or.inl rfl⟩
  · rcases List.mem_append.mp h1 with h2 | h2
    · exact ⟨List.mem_append_left _ h2, jx_all_good w h2⟩
    · exact ⟨List.mem_append_right _ (List.mem_append_left _ h2), good_of_word (List.all_eq_true.mp jx_xw_good w h2)⟩
def jx_ww (ω : Nat) (hh : List (Nat × Nat × Nat × Nat)) : List Cond := .codeWith (jx_nm ω) (jx_cd ω) (jx_mx ω) (some .int) hh :: jx_tw
def jx_rw (ω : Nat) : Room := { frames := jx_dp ω, cells := 1, slots := 6, locals := jx_lc ω }
def jx_tv9 (κ : Nat) (r : Int32) : List jxV := match jx_rt κ with
  | none => []
  | some _ => [jI r]
theorem jx_tv9_cv (G : jxG) (κ : Nat) (r : Int32) : (jx_tv9 κ r).map (jx_cv G) = (jx_rv κ r).toList := by
  unfold jx_tv9 jx_rv
  cases jx_rt κ <;> rfl
theorem jx_xl_is : jx_xl.all (fun κ => jx_is κ == false) = true := by decide +kernel
section JW
variable {p : Program} {l : Launch} {e : Env} {R : Room} {s : State} {m : MethodId} {args : Array Value} {below : List Frame} {meth : Method} {c : Code} {G : jxG} {A : Nat → Prop} {ω : Nat} {Qf : State → Prop}
theorem jx_callX {κ idx pc : Nat} {as rest : List jxV} {h : jxH} {E : Int32 → jxH → Prop} {TH : Nat → jxH → Prop} {la : Array Slot} {H : Heap} {locs : List Loc}
    (X : jx_X p R s m args meth c G A ω 0 0) (hts : ∀ w ∈ jx_tw, w.before args s = true) (hXS : jx_XS A s s.heap) (how : jx_ow ω = 8) (hst : l.stackTraces = false) (hP : va_P G.1 jx_cl (jx_ws G h) H) (hS : va_S A s.heap H locs) (hla : la.size = jx_mx ω) (hok : ∀ v ∈ jR 0 0 :: as, jx_ok v) (hk1 : ∀ v ∈ jR 0 0 :: as, jx_w1 v)
    (hκl : κ ∈ jx_xl) (hmd : (idx, κ) ∈ jx_lmk) (hn : (parseMethodDescriptor (jx_nm κ).desc).map (fun d => d.parameters.length) = some as.length) (hrest : jx_wg rest ≤ 8) (hdp : max 6 (jx_dp κ) < R.frames) (hlc : 19 + jx_mx κ + max 82 (jx_lc κ) ≤ R.locals) (hRc : 1 ≤ R.cells) (hRs : 6 ≤ R.slots)
    (hM : jx_MX κ (jR 0 0 :: as) h E TH) (hdg : decode (jx_cd ω) pc = .ok (.invokevirtual idx, 3))
    (kk : ∀ (r : Int32) (h' : jxH) (H1 : Heap) (locs1 : List Loc), E r h' → va_P G.1 jx_cl (jx_ws G h') H1 → va_S A s.heap H1 locs1 → W p l e R s m args below meth c H1 locs1 1 6 Qf (F0 m (pc + 3) la ((jx_rv κ r).toList ++ rest.map (jx_cv G))))
    (kx : ∀ (x : Nat) (h' : jxH) (q : Addr) (ce : Cell) (H1 : Heap) (locs1 : List Loc), x < 3 → TH x h' → va_P G.1 jx_cl (jx_ws G h') H1 → va_S A s.heap H1 locs1 → H1[q]? = some ce → ce.vm = .none → s.vm.findClass (jx_xr x).2.2 = some ce.cls → vx_W p l e R s m args below meth c H1 locs1 1 6 Qf (F0 m pc la (rest.map (jx_cv G))) q) :
    W p l e R s m args below meth c H locs 0 0 Qf (F0 m pc la (((jR 0 0 :: as).reverse ++ rest).map (jx_cv G))) := by
  have hck := List.all_eq_true.mp jx_sck_ok κ hκl
  rw [Bool.and_eq_true, Bool.and_eq_true] at hck
  obtain ⟨⟨-, hoκ⟩, hκ⟩ := hck
  have hκ : κ < jx_nn := by simpa [Nat.blt_eq] using hκ
  have hoκ := Nat.eq_of_beq_eq_true hoκ
  obtain ⟨hx, hb, hml, hown, -, hK, hD, hSF, hAw, -⟩ := X
  rw [how] at hown
  obtain ⟨q0, hq0⟩ := jx_find (k := 0) (i := 0) (by decide) (by decide)
  have hat := jx_at (G := G) (h := h) hq0
  obtain ⟨fs, hfl⟩ : ∃ fs, jx_fl 0 = some (0, fs) := ⟨_, rfl⟩
  have hcf : jx_cf G 0 0 (h 0 0) = .inr (0, fs.mapIdx (jx_fv G 0 (h 0 0))) := by simp [jx_cf, hfl]
  rw [hcf] at hat
  have hrecv := va_recv hK hP (show jx_cl[0]? = some ("DotVault", jx_T0, 9) from rfl) hat
  have hsub : ∀ q, va_A (jx_ws G h) H.size q → A q := fun q hq => hAw h H.size q hS.1 hq
  have his : jx_is κ = false := by
    have := List.all_eq_true.mp jx_xl_is κ hκl
    simpa using this
  have hcls : (jx_nm κ).cls = "DotVault" := by
    show jx_cn (jx_ow κ) = _
    rw [hoκ]
    rfl
  have hmw : ∀ w ∈ jx_mws κ, w.before args s = true := fun w hw => hts w (List.mem_append_left _ (List.mem_append_right _ (List.mem_append_left _ (List.mem_append_right _ (List.mem_flatMap.mpr ⟨κ, List.mem_range.mpr hκ, hw⟩)))))
  simp only [jx_mws, his, Bool.false_eq_true, if_false] at hmw
  have hinst := hmw _ (List.mem_cons_self)
  have hsel := hmw _ (List.mem_cons_of_mem _ List.mem_cons_self)
  have hini := hmw _ (List.mem_cons_of_mem _ (List.mem_cons_of_mem _ List.mem_cons_self))
  have hlink : (Cond.methodLink "DotVaultLaw" idx (jx_nm κ)).before args s = true := hts _ (List.mem_append_right _ (List.mem_append_right _ (List.mem_append_right _ (List.mem_map.mpr ⟨(idx, κ), hmd, rfl⟩))))
  have hsel' : (Cond.selects "DotVault" (jx_nm κ) (jx_nm κ)).before args s = true := by rw [← hcls]; exact hsel
  have hbl : FrameBlind (va_Pc ((jR 0 0 :: as).map (jx_cv G)) (fun U => U.heap.size = H.size ∧ jx_PX G h U ∧ jx_XS (va_A (jx_ws G h) U.heap.size) U U.heap)) := fun a U g mk q => by
    obtain ⟨q0, q1, ⟨qP, qK, qD, qS⟩, qX⟩ := q
    exact ⟨q0, q1, ⟨qP, va_K.moved (u := U) (U := U.calling g mk a) (Vm.Alike.refl U.vm) qK, qD, jx_SF_moved (u := U) (U := U.calling g mk a) (Vm.Alike.refl U.vm) qS⟩, jx_XS.warm (s := U) (U := U.calling g mk a) (State.WarmedH.refl U) qX⟩
  have hpre : ∀ U : State, U.heap = H → s.WarmedH U.vm → va_Pc ((jR 0 0 :: as).map (jx_cv G)) (fun U => U.heap.size = H.size ∧ jx_PX G h U ∧ jx_XS (va_A (jx_ws G h) U.heap.size) U U.heap) (((jR 0 0 :: as).map (jx_cv G)).toArray) U := fun U hU hW => by
    refine ⟨rfl, by rw [hU], ⟨by rw [hU]; exact hP, va_K.moved hW.alike hK, (hD h).weaken (fun _ _ _ _ => trivial), ?_⟩, ?_⟩
    · rw [hU]
      exact jx_SF_narrow (jx_SF_moved hW.alike (jx_SF_kept hSF hS.2.1)) hsub
    · rw [hU]
      exact jx_XS.narrow (jx_XS.warm hW (jx_XS.kept hXS hS.2.1)) hsub
  have hr := vx_runV (p := p) (e := e) (below := below) (meth := meth) (locs := locs) (cells := 0) (slots := 0) (C := "DotVault") (b := G.2.2 0 0) (As := as.map (jx_cv G)) (rest := rest.map (jx_cv G)) (n := as.length) (g := F0 m pc la (((jR 0 0 :: as).reverse ++ rest).map (jx_cv G))) (index := idx) (Ts := jx_tw) (own := "DotVaultLaw") (nL := jx_mx ω) ⟨hx, hb, hml, hown, hts⟩ (hM l G H.size hst hok hk1) ⟨callB_of (bytes := jx_cd κ) (maxL := jx_mx κ) (ret := jx_rt κ) as.length hts (jx_goodX hκ) rfl rfl rfl hini hlink ⟨by rw [hcls]; decide, by rw [hcls]; decide, hn⟩ ⟨hdp, by show 8 + (jx_mx κ + 11) + max 82 (jx_lc κ) ≤ R.locals; omega⟩, hinst, hsel'⟩ ⟨hbl, hrecv, hpre⟩ rfl (by simp) hla (by simp [F0, jx_cv]) (lv_room (by rw [jx_cats]; exact hrest)) hdg ⟨by omega, by omega⟩
  intro T hT Y
  rcases hr T hT Y with ⟨v, st₀, t, T', L, h0, Y', hL, e1, e2, ⟨⟨r, h', hv, hE, hPX⟩, hz, hk⟩, stp⟩ | ⟨q, st₀, t, T', L, E9, ce, h0, Y', hL, e1, e2, ⟨x, h', hx3, hTH, rfl, hPX, hz, hk⟩, hce, hcv, hcl, stp⟩
  · cases hv
    rw [h0] at hz hk
    obtain ⟨t2, a1, b1⟩ := kk r h' T'.heap (locs ++ L) hE (by rw [e1]; exact hPX.1)
      ⟨Nat.le_trans hS.1 (by rw [e1]; exact hz), fun q h1 h2 => by rw [e1, hk q (Nat.lt_of_lt_of_le h1 hS.1) (fun z => h2 (hsub q z))]; exact hS.2.1 q h1 h2, fun q hq => by
        rcases List.mem_append.mp hq with h9 | h9
        · exact hS.2.2 q h9
        · exact hsub _ (hL q h9)⟩ T' rfl Y'
    exact ⟨t2, stp t2 a1, b1⟩
  · rw [h0] at hz hk
    obtain ⟨t2, a1, b1⟩ := kx x h' q ce T'.heap (locs ++ L) hx3 hTH (by rw [e1]; exact hPX.1)
      ⟨Nat.le_trans hS.1 (by rw [e1]; exact hz), fun q h1 h2 => by rw [e1, hk q (Nat.lt_of_lt_of_le h1 hS.1) (fun z => h2 (hsub q z))]; exact hS.2.1 q h1 h2, fun q hq => by
        rcases List.mem_append.mp hq with h9 | h9
        · exact hS.2.2 q h9
        · exact hsub _ (hL q h9)⟩ (by rw [e1]; exact hce) hcv hcl T' rfl Y'
    exact ⟨t2, stp.trans a1, b1⟩
end JW
theorem jx_ofWT {l : Launch} {y : MethodName} {ws ws' : List Cond} {rm : Room} {Pc : Array Value → State → Prop} {Qc : Array Value → State → Outcome → State → Prop} {mc ms : Nat} {free : Addr → Prop} {cc : ByteArray} {maxL : Nat} {ret : Option FieldType} {hh : List (Nat × Nat × Nat × Nat)}
    (hy : plainName y.cls = true) (hw : ws = Cond.codeWith y cc maxL ret hh :: ws')
    (body : ∀ p e s m args below meth c s₁, BodyLoose p l y (headSpec ws rm) cc maxL ret e s m args below meth c s₁ → c.maxLocals = maxL → Pc args s →
      W p l e (headSpec ws rm).room s m args below meth c s.heap [] 0 0 (MQ below Qc args s mc ms free) (entryFrame m args maxL)) : Met l y ws rm Pc Qc mc ms free := by
  refine MetFree.of_bodyS (code := cc) (maxLocals := maxL) (ret := ret) hy ?_ ?_
  · intro args s m h hn
    obtain ⟨m9, meth, c, hn9, h1, h2, h3, h4, -, h5, h6, -⟩ := Cond.codeWith_spec (atoms_spec (ws := ws) h _ (by rw [hw]; exact List.mem_cons_self))
    cases hn.symm.trans hn9
    exact ⟨meth, c, h1, h2, h3, h4, h5, h6⟩
  · intro p e s m args below meth c s₁ B hml hP _
    have hh0 : s₁.heap = s.heap := by rw [B.state]; rfl
    obtain ⟨t, a1, o, b1, b2, b3⟩ := body p e s m args below meth c s₁ B hml hP s₁ hh0 (Stand.of_body B)
    exact ⟨t, o, a1, b1, b2, b3⟩
def jx_hnd (ω hp k : Nat) : Prop :=
  (∃ j : Fin 4, j.val < jx_mx ω ∧ decode (jx_cd ω) hp = .ok (.astore_n j, 1) ∧ decode (jx_cd ω) (hp + 1) = .ok (.iconst (Int.ofNat k), 1) ∧ decode (jx_cd ω) (hp + 2) = .ok (.ireturn, 1)) ∨
  (∃ j : Nat, j < jx_mx ω ∧ decode (jx_cd ω) hp = .ok (.astore j, 2) ∧ decode (jx_cd ω) (hp + 2) = .ok (.iconst (Int.ofNat k), 1) ∧ decode (jx_cd ω) (hp + 3) = .ok (.ireturn, 1))
def jx_lx : List Nat := [13, 15, 46]
def jx_MWR (ω : Nat) (hh : List (Nat × Nat × Nat × Nat)) (as : List jxV) (h : jxH) (E : Int32 → jxH → Prop) : Prop :=
  ∀ (l : Launch) (G : jxG) (sz : Nat), l.stackTraces = false → (∀ v ∈ as, jx_ok v) → (∀ v ∈ as, jx_w1 v) → Met l (jx_nm ω) (jx_ww ω hh) (jx_rw ω) (va_Pc (as.map (jx_cv G)) (fun U => U.heap.size = sz ∧ jx_PX G h U ∧ jx_XS (va_A (jx_ws G h) U.heap.size) U U.heap)) (jx_Qc G ω (va_A (jx_ws G h) sz) E) 1 6 (va_A (jx_ws G h) sz)
theorem jx_WR {ω κ idx cpc : Nat} {hh : List (Nat × Nat × Nat × Nat)} {as rest asW : List jxV} {ls : jxL} {h : jxH} {E E' : Int32 → jxH → Prop} {TH : Nat → jxH → Prop}
    (hωt : ω < jx_nt) (how : jx_ow ω = 8) (hrt : jx_rt ω = some .int) (hwn : asW.length ≤ jx_mx ω) (hls : asW.map some ++ List.replicate (jx_mx ω - asW.length) none = ls) (hκl : κ ∈ jx_xl) (hmd : (idx, κ) ∈ jx_lmk) (hn : (parseMethodDescriptor (jx_nm κ).desc).map (fun d => d.parameters.length) = some as.length) (hrest : jx_wg rest ≤ 8) (hdp : max 6 (jx_dp κ) < jx_dp ω) (hlc : 19 + jx_mx κ + max 82 (jx_lc κ) ≤ jx_lc ω)
    (hk1A : ∀ v ∈ jR 0 0 :: as, jx_w1 v) (hM : jx_MX κ (jR 0 0 :: as) h E TH) (hdg : decode (jx_cd ω) cpc = .ok (.invokevirtual idx, 3))
    (hfirst : ∀ V : Nat → jxL → List jxV → jxH → Prop, (∀ (cut : Nat → Bool) (n pc : Nat) (ls : jxL) (st : List jxV) (h : jxH), jx_blk ω cut V E' (fun _ _ => False) n pc ls st h → V pc ls st h) → V cpc ls ((jR 0 0 :: as).reverse ++ rest) h → V 0 ls [] h)
    (hnext : ∀ V : Nat → jxL → List jxV → jxH → Prop, (∀ (cut : Nat → Bool) (n pc : Nat) (ls : jxL) (st : List jxV) (h : jxH), jx_blk ω cut V E' (fun _ _ => False) n pc ls st h → V pc ls st h) → ∀ r h1, E r h1 → V (cpc + 3) ls (jx_tv9 κ r ++ rest) h1)
    (hcat : ∀ x h1, x < 3 → TH x h1 → ∃ (pre : List ExceptionTableEntry) (z : ExceptionTableEntry) (suf : List ExceptionTableEntry) (k : Nat), k < 2048 ∧ tableOf hh = pre ++ z :: suf ∧ (∀ y ∈ pre, y.catchType = 13 ∧ x = 1) ∧ covers z cpc = true ∧ z.catchType = jx_lx.getD x 0 ∧ jx_hnd ω z.handlerPc k ∧ E' (nI k) h1) : jx_MWR ω hh asW h E' := by
  intro l G sz hst hok hk1
  refine jx_ofWT (cc := jx_cd ω) (maxL := jx_mx ω) (ret := some .int) (hh := hh) (by show plainName (jx_cn (jx_ow ω)) = true; rw [how]; decide +kernel) rfl ?_
  intro p e s m args below meth c s₁ B hml hv
  obtain ⟨rfl, hsz, ⟨hP, hK, hD0, hSF⟩, hXS⟩ := hv
  subst hsz
  have hD := hD0.self (sz := s.heap.size)
  have hws : ∀ w ∈ jx_ww ω hh, w.before ((asW.map (jx_cv G)).toArray) s = true := atoms_spec (ws := jx_ww ω hh) B.pre
  have htab : c.exceptionTable.toList = tableOf hh := vx_table (x := jx_nm ω) B (hws _ List.mem_cons_self)
  have hts : ∀ w ∈ jx_tw, w.before ((asW.map (jx_cv G)).toArray) s = true := fun w hw => hws w (List.mem_cons_of_mem _ hw)
  have hA9 : ∀ (h' : jxH) (sz' q : Nat), s.heap.size ≤ sz' → va_A (jx_ws G h') sz' q → va_A (jx_ws G h) s.heap.size q := fun h' sz' q hsz' hq => by
    rcases jx_A_any (h' := h) hq with h1 | h1
    · exact Or.inl h1
    · exact Or.inr (Nat.le_trans hsz' h1)
  have XX : ∀ cs ss, cs ≤ 1 → ss ≤ 6 → jx_X p (headSpec (jx_ww ω hh) (jx_rw ω)).room s m ((asW.map (jx_cv G)).toArray) meth c G (va_A (jx_ws G h) s.heap.size) ω cs ss := fun cs ss h1 h2 =>
    ⟨B.exec, B.bytes, hml, findClass_of_methodNamed B.named, fun w hw => hts w (List.mem_append_left _ hw), hK, fun h' => jx_D_any hD, hSF, hA9, by rw [B.returns, hrt], B.notSynchronized, hωt, Nat.le_refl _, Nat.le_refl _, h1, h2⟩
  have X0 := XX 0 0 (by decide) (by decide)
  have X1 := XX 1 6 (by decide) (by decide)
  have hl := lv_entry (asW.map (jx_cv G)) (n := jx_mx ω) (by rw [jx_sl_len G asW hk1]; exact hwn)
  rw [lg_entry_eq]
  have hmem : ∀ (j : Nat) (v : jxV), ls[j]? = some (some v) → asW[j]? = some v := by
    intro j v hj
    rw [← hls] at hj
    by_cases hja : j < asW.length
    · rw [List.getElem?_append_left (by simpa using hja), List.getElem?_map] at hj
      cases ha : asW[j]? with
      | none => rw [ha] at hj; cases hj
      | some w => rw [ha] at hj; cases hj; rfl
    · rw [List.getElem?_append_right (by simpa using hja)] at hj
      have := List.mem_of_getElem? hj
      rw [List.mem_replicate] at this
      cases this.2
  have hfin0 : ∀ t, MQ below (jx_Qc G ω (va_A (jx_ws G h) s.heap.size) E') ((asW.map (jx_cv G)).toArray) s 0 0 (va_A (jx_ws G h) s.heap.size) t → MQ below (jx_Qc G ω (va_A (jx_ws G h) s.heap.size) E') ((asW.map (jx_cv G)).toArray) s 1 6 (va_A (jx_ws G h) s.heap.size) t := by
    rintro t ⟨o, h1, h2, h3, L, h4, h5⟩
    exact ⟨o, h1, h2, h3, L, ⟨h4.1, h4.2.1, h4.2.2.mono (by decide) (by decide)⟩, h5⟩
  refine hfirst (jx_V p l e _ s m _ below meth c G _ ω 0 0 _) (fun cut n pc ls st h hb => jx_blk_ok X0 hfin0 (fun _ _ _ _ _ _ _ _ _ h9 => False.elim h9) cut n pc ls st h hb) ?_ s.heap [] _ ⟨?_, _, hl, fun j v hj => ?_⟩ (fun v hv => by cases hv) (fun j v hj => hok v (List.mem_of_getElem? (hmem j v hj))) hP va_S.rf
  · intro H locs la hlo hst9 hls9 hP9 hS9
    have hsize : la.size = jx_mx ω := by
      obtain ⟨-, lv, h1, -⟩ := hlo
      exact h1.1
    refine jx_callX X0 hts hXS how hst hP9 hS9 hsize (fun v hv => hst9 v (List.mem_append_left _ (List.mem_reverse.mpr hv))) hk1A hκl hmd hn hrest hdp hlc (Nat.le_refl _) (Nat.le_refl _) hM hdg (fun r h' H1 locs1 hE hP1 hS1 => ?_) (fun x h' q ce H1 locs1 hx3 hTH hP1 hS1 hce hcv hcl => ?_)
    · have := hnext (jx_V p l e _ s m _ below meth c G _ ω 1 6 _) (fun cut n pc ls st h hb => jx_blk_ok X1 (fun t ht => ht) (fun _ _ _ _ _ _ _ _ _ h9 => False.elim h9) cut n pc ls st h hb) r h' hE H1 locs1 la hlo (fun v hv => by
        rcases List.mem_append.mp hv with h9 | h9
        · unfold jx_tv9 at h9
          cases hr9 : jx_rt κ with
          | none => rw [hr9] at h9; cases h9
          | some _ => rw [hr9] at h9; cases List.mem_singleton.mp h9; trivial
        · exact hst9 v (List.mem_append_right _ h9)) hls9 hP1 hS1
      rw [List.map_append, jx_tv9_cv] at this
      exact this
    · obtain ⟨pre, z, suf, k, hk9, c1, c2, c3, c4, c5, c6⟩ := hcat x h' hx3 hTH
      have hown : s.vm.findClass "DotVaultLaw" = some m.cls := by
        have := findClass_of_methodNamed B.named
        rw [show (jx_nm ω).cls = "DotVaultLaw" by show jx_cn (jx_ow ω) = _; rw [how]; rfl] at this
        exact this
      have hlk : ∀ y, y < 3 → (Cond.classLink "DotVaultLaw" (jx_lx.getD y 0) (jx_xr y).2.2).before ((asW.map (jx_cv G)).toArray) s = true := fun y hy => hts _ (List.mem_append_right _ (List.mem_append_right _ (List.mem_append_left _ (by
        rcases (show y = 0 ∨ y = 1 ∨ y = 2 by omega) with rfl | rfl | rfl
        · exact List.mem_cons_self
        · exact List.mem_cons_of_mem _ List.mem_cons_self
        · exact List.mem_cons_of_mem _ (List.mem_cons_of_mem _ List.mem_cons_self)))))
      have h13 : ∀ y, y < 3 → jx_lx.getD y 0 ≠ 0 := by decide
      have hend : ∀ t : State, t.heap = H1 → s.WarmedH t.vm → jx_Qc G ω (va_A (jx_ws G h) s.heap.size) E' ((asW.map (jx_cv G)).toArray) s (.returned (some (.int (nI k)))) t := by
        intro t ht hW
        refine ⟨⟨nI k, h', by simp [jx_rv, hrt], c6, ⟨by rw [ht]; exact hP1, va_K.moved hW.alike hK, (jx_D_any hD).weaken (fun _ _ _ _ => trivial), ?_⟩⟩, hS1.F ht⟩
        rw [ht]
        exact jx_SF_narrow (jx_SF_moved hW.alike (jx_SF_kept hSF hS1.2.1)) (fun q hq => hA9 h' H1.size q hS1.1 hq)
      have hik : Int32.ofInt (Int.ofNat k) = nI k := (jx_int_a k hk9).1
      refine vx_catch (own := "DotVaultLaw") (name := (jx_xr x).2.2) (E := (jx_xr x).2.2) hown pre z suf (by rw [htab]; exact c1) (fun y hy => ?_) c3 (by rw [c4]; exact h13 x hx3) (by rw [c4]; exact hlk x hx3) (va_Nw.use (A := (asW.map (jx_cv G)).toArray) rfl (hXS.2.2.2.1 x hx3)) hce hcv hcl ?_
      · obtain ⟨y1, rfl⟩ := c2 y hy
        exact Or.inr ⟨by rw [y1]; decide, _, by rw [y1]; exact hlk 0 (by decide), hXS.2.2.2.2.2⟩
      · obtain ⟨-, lv, hlv, -⟩ := hlo
        rcases c5 with ⟨j, hj, e0, e1, e2⟩ | ⟨j, hj, e0, e1, e2⟩
        · refine lv_astore_n (x := q) (i := j.val) B.exec B.bytes e0 rfl hlv hj rfl (fun la' h9 => ?_)
          refine lv_iconst (v := nI k) B.exec B.bytes e1 hik ?_
          exact W.iret B.exec B.bytes B.returns hend hS1.2.2 e2
        · refine lv_astore (x := q) B.exec B.bytes e0 hlv hj rfl (fun la' h9 => ?_)
          refine lv_iconst (v := nI k) B.exec B.bytes e1 hik ?_
          exact W.iret B.exec B.bytes B.returns hend hS1.2.2 e2
  · rw [← hls]
    simp
    omega
  · have := jx_args_mem G asW 0 j v hk1 (hmem j v hj)
    rw [Nat.zero_add] at this
    exact ⟨this, hk1 v (List.mem_of_getElem? (hmem j v hj))⟩
end
section
/-! The nine wrappers. -/
/-- behind a wrapper: 0 and the reference will answer what lies in out, or t and the reference will have thrown t -/
def WQ (κ : Nat) (as : List jxV) : Int32 → jxH → Prop := fun k h' => (k = nI 0 ∧ ∃ f9, jx_MW κ as h' (RQ f9 (f9 0))) ∨ (∃ t, 0 < t ∧ t < 3 ∧ k = nI t ∧ jx_MW κ as h' (RT t))
def WQd (κ : Nat) (as : List jxV) : Int32 → jxH → Prop := fun k h' => (k = nI 0 ∧ ∃ f9 r, jx_MW κ as h' (RQ f9 r) ∧ (r = 0 → f9 0 = nI 0) ∧ (¬ r = 0 → f9 0 = nI 1)) ∨ (∃ t, 0 < t ∧ t < 3 ∧ k = nI t ∧ jx_MW κ as h' (RT t))
def WQf (κ : Nat) (as : List jxV) : Int32 → jxH → Prop := fun k h' => ∃ t, t < 3 ∧ k = nI t ∧ jx_MW κ as h' (RT t)
theorem M_load {b : Int32} {h : jxH} (hR : REL h) : jx_MWR 112 [(0, 9, 12, 13), (0, 9, 15, 15)] [jR 0 0, jI b, jR 33 0] h (WQ 30 [jR 20 0, jI b]) := by
  refine jx_WR (ω := 112) (κ := 2) (idx := 7) (cpc := 4) (as := [jI b]) (rest := [jI (nI 0), jR 33 0]) (ls := [some (jR 0 0), some (jI b), some (jR 33 0), none]) (by decide) rfl rfl (Nat.le_of_ble_eq_true rfl) rfl (by decide) (by decide) (show (parseMethodDescriptor (jx_nm 2).desc).map (fun d => d.parameters.length) = some 1 by decide +kernel) (Nat.le_of_ble_eq_true rfl) (by decide) (by decide) (fun v hv => ?_) (jx_BM_MX (by decide) (Nat.le_of_ble_eq_true rfl) (Q_load hR)) (by decide +kernel) (fun V rule hv => ?_) (fun V rule r h1 hE => ?_) (fun x h1 hx hT => ?_)
  · simp only [List.mem_cons, List.not_mem_nil, or_false] at hv
    rcases hv with rfl | rfl <;> trivial
  · refine rule (Nat.beq 4) 20 0 _ _ _ ?_
    exact hv
  · refine rule (fun _ => false) 20 7 _ _ _ ?_
    refine Exists.intro 0 (And.intro (And.intro (by decide) rfl) ?_)
    exact Or.inl (And.intro rfl (Exists.intro (upd (h1 33 0) 0 r) (hE (upd (h1 33 0) 0 r))))
  · obtain ⟨rfl, ⟨rfl, hT⟩ | ⟨rfl, hT⟩⟩ := hT
    · exact ⟨[], ⟨0, 9, 12, 13⟩, [⟨0, 9, 15, 15⟩], 1, by decide, rfl, fun _ hy => (by cases hy), by decide, rfl, Or.inl ⟨3, by decide, by decide +kernel, by decide +kernel, by decide +kernel⟩, Or.inr (Exists.intro 1 (And.intro (by decide) (And.intro (by decide) (And.intro rfl hT))))⟩
    · exact ⟨[⟨0, 9, 12, 13⟩], ⟨0, 9, 15, 15⟩, [], 2, by decide, rfl, fun y hy => (by cases List.mem_singleton.mp hy; exact ⟨rfl, rfl⟩), by decide, rfl, Or.inl ⟨3, by decide, by decide +kernel, by decide +kernel, by decide +kernel⟩, Or.inr (Exists.intro 2 (And.intro (by decide) (And.intro (by decide) (And.intro rfl hT))))⟩
theorem M_print {h : jxH} (hR : REL h) : jx_MWR 113 [(0, 8, 11, 15)] [jR 0 0, jR 33 0] h (WQ 105 [jR 20 0]) := by
  refine jx_WR (ω := 113) (κ := 107) (idx := 17) (cpc := 3) (as := []) (rest := [jI (nI 0), jR 33 0]) (ls := [some (jR 0 0), some (jR 33 0), none]) (by decide) rfl rfl (Nat.le_of_ble_eq_true rfl) rfl (by decide) (by decide) (show (parseMethodDescriptor (jx_nm 107).desc).map (fun d => d.parameters.length) = some 0 by decide +kernel) (Nat.le_of_ble_eq_true rfl) (by decide) (by decide) (fun v hv => ?_) (jx_BM_MX (by decide) (Nat.le_of_ble_eq_true rfl) (Q_print hR)) (by decide +kernel) (fun V rule hv => ?_) (fun V rule r h1 hE => ?_) (fun x h1 hx hT => ?_)
  · simp only [List.mem_cons, List.not_mem_nil, or_false] at hv
    subst hv
    trivial
  · refine rule (Nat.beq 3) 20 0 _ _ _ ?_
    exact hv
  · refine rule (fun _ => false) 20 6 _ _ _ ?_
    refine Exists.intro 0 (And.intro (And.intro (by decide) rfl) ?_)
    exact Or.inl (And.intro rfl (Exists.intro (upd (h1 33 0) 0 r) (hE (upd (h1 33 0) 0 r))))
  · obtain ⟨rfl, rfl, hT⟩ := hT
    exact ⟨[], ⟨0, 8, 11, 15⟩, [], 1, by decide, rfl, fun _ hy => (by cases hy), by decide, rfl, Or.inl ⟨2, by decide, by decide +kernel, by decide +kernel, by decide +kernel⟩, Or.inr (Exists.intro 1 (And.intro (by decide) (And.intro (by decide) (And.intro rfl hT))))⟩
theorem M_dot {pg x y : Int32} {h : jxH} (hR : REL h) : jx_MWR 114 [(0, 19, 22, 13)] [jR 0 0, jI pg, jI x, jI y, jR 33 0] h (WQd 66 [jR 20 0, jI pg, jI x, jI y]) := by
  refine jx_WR (ω := 114) (κ := 77) (idx := 21) (cpc := 7) (as := [jI pg, jI x, jI y]) (rest := [jI (nI 0), jR 33 0]) (ls := [some (jR 0 0), some (jI pg), some (jI x), some (jI y), some (jR 33 0), none]) (by decide) rfl rfl (Nat.le_of_ble_eq_true rfl) rfl (by decide) (by decide) (show (parseMethodDescriptor (jx_nm 77).desc).map (fun d => d.parameters.length) = some 3 by decide +kernel) (Nat.le_of_ble_eq_true rfl) (by decide) (by decide) (fun v hv => ?_) (jx_BM_MX (by decide) (Nat.le_of_ble_eq_true rfl) (Q_dot hR)) (by decide +kernel) (fun V rule hv => ?_) (fun V rule r h1 hE => ?_) (fun x h1 hx hT => ?_)
  · simp only [List.mem_cons, List.not_mem_nil, or_false] at hv
    rcases hv with rfl | rfl | rfl | rfl <;> trivial
  · refine rule (Nat.beq 7) 20 0 _ _ _ ?_
    exact hv
  · refine rule (fun _ => false) 20 10 _ _ _ ?_
    refine br_c (fun q => ?_) (fun q => ?_)
    · refine Exists.intro 0 (And.intro (And.intro (by decide) rfl) ?_)
      exact Or.inl (And.intro rfl (Exists.intro (upd (h1 33 0) 0 (nI 0)) (Exists.intro r (And.intro (hE _) (And.intro (fun _ => rfl) (fun z => absurd q z))))))
    · refine Exists.intro 0 (And.intro (And.intro (by decide) rfl) ?_)
      exact Or.inl (And.intro rfl (Exists.intro (upd (h1 33 0) 0 (nI 1)) (Exists.intro r (And.intro (hE _) (And.intro (fun z => absurd z q) (fun _ => rfl))))))
  · obtain ⟨rfl, rfl, hT⟩ := hT
    exact ⟨[], ⟨0, 19, 22, 13⟩, [], 1, by decide, rfl, fun _ hy => (by cases hy), by decide, rfl, Or.inr ⟨5, by decide, by decide +kernel, by decide +kernel, by decide +kernel⟩, Or.inr (Exists.intro 1 (And.intro (by decide) (And.intro (by decide) (And.intro rfl hT))))⟩
theorem M_blot {pg x y wi hi : Int32} {c : Bool} {h : jxH} (hR : REL h) : jx_MWR 115 [(0, 18, 21, 13)] [jR 0 0, jI pg, jI x, jI y, jI wi, jI hi, jI (nI c.toNat), jR 33 0] h (WQ 64 [jR 20 0, jI pg, jI x, jI y, jI wi, jI hi, jI (nI c.toNat)]) := by
  refine jx_WR (ω := 115) (κ := 76) (idx := 25) (cpc := 13) (as := [jI pg, jI x, jI y, jI wi, jI hi, jI (nI c.toNat)]) (rest := [jI (nI 0), jR 33 0]) (ls := [some (jR 0 0), some (jI pg), some (jI x), some (jI y), some (jI wi), some (jI hi), some (jI (nI c.toNat)), some (jR 33 0), none]) (by decide) rfl rfl (Nat.le_of_ble_eq_true rfl) rfl (by decide) (by decide) (show (parseMethodDescriptor (jx_nm 76).desc).map (fun d => d.parameters.length) = some 6 by decide +kernel) (Nat.le_of_ble_eq_true rfl) (by decide) (by decide) (fun v hv => ?_) (jx_BM_MX (by decide) (Nat.le_of_ble_eq_true rfl) (Q_blot hR)) (by decide +kernel) (fun V rule hv => ?_) (fun V rule r h1 hE => ?_) (fun x h1 hx hT => ?_)
  · simp only [List.mem_cons, List.not_mem_nil, or_false] at hv
    rcases hv with rfl | rfl | rfl | rfl | rfl | rfl | rfl <;> trivial
  · refine rule (Nat.beq 13) 20 0 _ _ _ ?_
    exact hv
  · refine rule (fun _ => false) 20 16 _ _ _ ?_
    refine Exists.intro 0 (And.intro (And.intro (by decide) rfl) ?_)
    exact Or.inl (And.intro rfl (Exists.intro (upd (h1 33 0) 0 r) (hE (upd (h1 33 0) 0 r))))
  · obtain ⟨rfl, rfl, hT⟩ := hT
    exact ⟨[], ⟨0, 18, 21, 13⟩, [], 1, by decide, rfl, fun _ hy => (by cases hy), by decide, rfl, Or.inr ⟨8, by decide, by decide +kernel, by decide +kernel, by decide +kernel⟩, Or.inr (Exists.intro 1 (And.intro (by decide) (And.intro (by decide) (And.intro rfl hT))))⟩
theorem M_flip {pg x y : Int32} {h : jxH} (hR : REL h) : jx_MWR 116 [(0, 7, 10, 13)] [jR 0 0, jI pg, jI x, jI y] h (WQf 68 [jR 20 0, jI pg, jI x, jI y]) := by
  refine jx_WR (ω := 116) (κ := 78) (idx := 29) (cpc := 4) (as := [jI pg, jI x, jI y]) (rest := []) (ls := [some (jR 0 0), some (jI pg), some (jI x), some (jI y), none]) (by decide) rfl rfl (Nat.le_of_ble_eq_true rfl) rfl (by decide) (by decide) (show (parseMethodDescriptor (jx_nm 78).desc).map (fun d => d.parameters.length) = some 3 by decide +kernel) (Nat.le_of_ble_eq_true rfl) (by decide) (by decide) (fun v hv => ?_) (jx_BM_MX (by decide) (Nat.le_of_ble_eq_true rfl) (Q_flip hR)) (by decide +kernel) (fun V rule hv => ?_) (fun V rule r h1 hE => ?_) (fun x h1 hx hT => ?_)
  · simp only [List.mem_cons, List.not_mem_nil, or_false] at hv
    rcases hv with rfl | rfl | rfl | rfl <;> trivial
  · refine rule (Nat.beq 4) 20 0 _ _ _ ?_
    exact hv
  · refine rule (fun _ => false) 20 7 _ _ _ ?_
    exact Exists.intro 0 (And.intro (by decide) (And.intro rfl hE))
  · obtain ⟨rfl, rfl, hT⟩ := hT
    exact ⟨[], ⟨0, 7, 10, 13⟩, [], 1, by decide, rfl, fun _ hy => (by cases hy), by decide, rfl, Or.inr ⟨4, by decide, by decide +kernel, by decide +kernel, by decide +kernel⟩, Exists.intro 1 (And.intro (by decide) (And.intro rfl hT))⟩
theorem M_feed {pg tn : Int32} {h : jxH} (hR : REL h) : jx_MWR 117 [(0, 10, 13, 13)] [jR 0 0, jI pg, jI tn, jR 33 0] h (WQ 110 [jR 20 0, jI pg, jI tn]) := by
  refine jx_WR (ω := 117) (κ := 111) (idx := 33) (cpc := 5) (as := [jI pg, jI tn]) (rest := [jI (nI 0), jR 33 0]) (ls := [some (jR 0 0), some (jI pg), some (jI tn), some (jR 33 0), none]) (by decide) rfl rfl (Nat.le_of_ble_eq_true rfl) rfl (by decide) (by decide) (show (parseMethodDescriptor (jx_nm 111).desc).map (fun d => d.parameters.length) = some 2 by decide +kernel) (Nat.le_of_ble_eq_true rfl) (by decide) (by decide) (fun v hv => ?_) (jx_BM_MX (by decide) (Nat.le_of_ble_eq_true rfl) (Q_feed hR)) (by decide +kernel) (fun V rule hv => ?_) (fun V rule r h1 hE => ?_) (fun x h1 hx hT => ?_)
  · simp only [List.mem_cons, List.not_mem_nil, or_false] at hv
    rcases hv with rfl | rfl | rfl <;> trivial
  · refine rule (Nat.beq 5) 20 0 _ _ _ ?_
    exact hv
  · refine rule (fun _ => false) 20 8 _ _ _ ?_
    refine Exists.intro 0 (And.intro (And.intro (by decide) rfl) ?_)
    exact Or.inl (And.intro rfl (Exists.intro (upd (h1 33 0) 0 r) (hE (upd (h1 33 0) 0 r))))
  · obtain ⟨rfl, rfl, hT⟩ := hT
    exact ⟨[], ⟨0, 10, 13, 13⟩, [], 1, by decide, rfl, fun _ hy => (by cases hy), by decide, rfl, Or.inr ⟨4, by decide, by decide +kernel, by decide +kernel, by decide +kernel⟩, Or.inr (Exists.intro 1 (And.intro (by decide) (And.intro (by decide) (And.intro rfl hT))))⟩
theorem M_errors {r : Int32} {h : jxH} (hR : REL h) : jx_MWR 118 [(0, 9, 12, 13)] [jR 0 0, jI r, jR 33 0] h (WQ 27 [jR 20 0, jI r]) := by
  refine jx_WR (ω := 118) (κ := 45) (idx := 37) (cpc := 4) (as := [jI r]) (rest := [jI (nI 0), jR 33 0]) (ls := [some (jR 0 0), some (jI r), some (jR 33 0), none]) (by decide) rfl rfl (Nat.le_of_ble_eq_true rfl) rfl (by decide) (by decide) (show (parseMethodDescriptor (jx_nm 45).desc).map (fun d => d.parameters.length) = some 1 by decide +kernel) (Nat.le_of_ble_eq_true rfl) (by decide) (by decide) (fun v hv => ?_) (jx_BM_MX (by decide) (Nat.le_of_ble_eq_true rfl) (Q_errors hR)) (by decide +kernel) (fun V rule hv => ?_) (fun V rule r h1 hE => ?_) (fun x h1 hx hT => ?_)
  · simp only [List.mem_cons, List.not_mem_nil, or_false] at hv
    rcases hv with rfl | rfl <;> trivial
  · refine rule (Nat.beq 4) 20 0 _ _ _ ?_
    exact hv
  · refine rule (fun _ => false) 20 7 _ _ _ ?_
    refine Exists.intro 0 (And.intro (And.intro (by decide) rfl) ?_)
    exact Or.inl (And.intro rfl (Exists.intro (upd (h1 33 0) 0 r) (hE (upd (h1 33 0) 0 r))))
  · obtain ⟨rfl, rfl, hT⟩ := hT
    exact ⟨[], ⟨0, 9, 12, 13⟩, [], 1, by decide, rfl, fun _ hy => (by cases hy), by decide, rfl, Or.inl ⟨3, by decide, by decide +kernel, by decide +kernel, by decide +kernel⟩, Or.inr (Exists.intro 1 (And.intro (by decide) (And.intro (by decide) (And.intro rfl hT))))⟩
theorem M_rebuild {h : jxH} (hR : REL h) : jx_MWR 119 [(0, 8, 11, 15)] [jR 0 0, jR 33 0] h (WQ 91 [jR 20 0]) := by
  refine jx_WR (ω := 119) (κ := 108) (idx := 40) (cpc := 3) (as := []) (rest := [jI (nI 0), jR 33 0]) (ls := [some (jR 0 0), some (jR 33 0), none]) (by decide) rfl rfl (Nat.le_of_ble_eq_true rfl) rfl (by decide) (by decide) (show (parseMethodDescriptor (jx_nm 108).desc).map (fun d => d.parameters.length) = some 0 by decide +kernel) (Nat.le_of_ble_eq_true rfl) (by decide) (by decide) (fun v hv => ?_) (jx_BM_MX (by decide) (Nat.le_of_ble_eq_true rfl) (Q_rebuild hR)) (by decide +kernel) (fun V rule hv => ?_) (fun V rule r h1 hE => ?_) (fun x h1 hx hT => ?_)
  · simp only [List.mem_cons, List.not_mem_nil, or_false] at hv
    subst hv
    trivial
  · refine rule (Nat.beq 3) 20 0 _ _ _ ?_
    exact hv
  · refine rule (fun _ => false) 20 6 _ _ _ ?_
    refine Exists.intro 0 (And.intro (And.intro (by decide) rfl) ?_)
    exact Or.inl (And.intro rfl (Exists.intro (upd (h1 33 0) 0 r) (hE (upd (h1 33 0) 0 r))))
  · obtain ⟨rfl, rfl, hT⟩ := hT
    exact ⟨[], ⟨0, 8, 11, 15⟩, [], 1, by decide, rfl, fun _ hy => (by cases hy), by decide, rfl, Or.inl ⟨2, by decide, by decide +kernel, by decide +kernel, by decide +kernel⟩, Or.inr (Exists.intro 1 (And.intro (by decide) (And.intro (by decide) (And.intro rfl hT))))⟩
theorem M_out {i : Int32} {h : jxH} (hR : REL h) : jx_MWR 120 [(0, 9, 12, 46)] [jR 0 0, jI i, jR 33 0] h (WQ 34 [jR 20 0, jI i]) := by
  refine jx_WR (ω := 120) (κ := 48) (idx := 43) (cpc := 4) (as := [jI i]) (rest := [jI (nI 0), jR 33 0]) (ls := [some (jR 0 0), some (jI i), some (jR 33 0), none]) (by decide) rfl rfl (Nat.le_of_ble_eq_true rfl) rfl (by decide) (by decide) (show (parseMethodDescriptor (jx_nm 48).desc).map (fun d => d.parameters.length) = some 1 by decide +kernel) (Nat.le_of_ble_eq_true rfl) (by decide) (by decide) (fun v hv => ?_) (jx_BM_MX (by decide) (Nat.le_of_ble_eq_true rfl) (Q_out hR)) (by decide +kernel) (fun V rule hv => ?_) (fun V rule r h1 hE => ?_) (fun x h1 hx hT => ?_)
  · simp only [List.mem_cons, List.not_mem_nil, or_false] at hv
    rcases hv with rfl | rfl <;> trivial
  · refine rule (Nat.beq 4) 20 0 _ _ _ ?_
    exact hv
  · refine rule (fun _ => false) 20 7 _ _ _ ?_
    refine Exists.intro 0 (And.intro (And.intro (by decide) rfl) ?_)
    exact Or.inl (And.intro rfl (Exists.intro (upd (h1 33 0) 0 r) (hE (upd (h1 33 0) 0 r))))
  · obtain ⟨rfl, rfl, hT⟩ := hT
    exact ⟨[], ⟨0, 9, 12, 46⟩, [], 1, by decide, rfl, fun _ hy => (by cases hy), by decide, rfl, Or.inl ⟨3, by decide, by decide +kernel, by decide +kernel, by decide +kernel⟩, Or.inr (Exists.intro 1 (And.intro (by decide) (And.intro (by decide) (And.intro rfl hT))))⟩
end
section
/-! The law's loop: a block machine over the pure one, with the script and the wrappers. -/
def jl_wl : List (Nat × Nat × List (Nat × Nat × Nat × Nat)) := [(52, 112, [(0, 9, 12, 13), (0, 9, 15, 15)]), (65, 113, [(0, 8, 11, 15)]), (69, 114, [(0, 19, 22, 13)]), (73, 115, [(0, 18, 21, 13)]), (77, 116, [(0, 7, 10, 13)]), (81, 117, [(0, 10, 13, 13)]), (85, 118, [(0, 9, 12, 13)]), (92, 119, [(0, 8, 11, 15)]), (95, 120, [(0, 9, 12, 46)])]
def jl_wr (idx : Nat) : Option (Nat × List (Nat × Nat × Nat × Nat)) := (jl_wl.find? (fun e => Nat.beq e.1 idx)).map (fun e => e.2)
def jl_lz : List Cond := jl_wl.flatMap (fun e => [.methodLink "DotVaultLaw" e.1 (jx_nm e.2.1), .static (jx_nm e.2.1), .initialized (jx_nm e.2.1).cls, .codeWith (jx_nm e.2.1) (jx_cd e.2.1) (jx_mx e.2.1) (some .int) e.2.2])
def jl_lt : List Cond := jx_tw ++ jl_lz
theorem jl_lz_good : jl_lz.all goodWord = true := by decide +kernel
theorem jl_wl_ok : jl_wl.all (fun e => decide ((parseMethodDescriptor (jx_nm e.2.1).desc).map (fun d => d.parameters.length) = some (jx_np e.2.1)) && Nat.ble (jx_dp e.2.1) 7 && Nat.ble (19 + jx_mx e.2.1 + jx_lc e.2.1) 378 && (jx_rt e.2.1 == some .int) && Nat.beq (jx_ow e.2.1) 8) = true := by decide +kernel
theorem jl_wr_in {idx ω : Nat} {hh : List (Nat × Nat × Nat × Nat)} (h : jl_wr idx = some (ω, hh)) : (idx, ω, hh) ∈ jl_wl := by
  unfold jl_wr at h
  cases hf : jl_wl.find? (fun e => Nat.beq e.1 idx) with
  | none => rw [hf] at h; cases h
  | some q =>
    rw [hf] at h
    have h1 := List.mem_of_find?_eq_some hf
    have h2 := List.find?_some hf
    obtain ⟨a, b⟩ := q
    cases h
    have h3 : a = idx := Nat.eq_of_beq_eq_true h2
    rw [h3] at h1
    exact h1
def jl_op (SL : Nat × (Nat → Int32)) (go : Nat → Nat → jxL → List jxV → jxH → Prop) (n : Nat) (i : Instr) (nx : Nat) (tg : List Nat) (ls : jxL) (st : List jxV) (h : jxH) : Prop := match i with
  | .arraylength => jx_r st (fun k j st => cond (Nat.beq k 34 && Nat.beq j 0) (go n nx ls (.inl (nI SL.1) :: st) h) False)
  | .iaload => jx_i st (fun x st => jx_r st (fun k b st => cond (Nat.beq k 34 && Nat.beq b 0) (∃ j, (j < SL.1 ∧ x = nI j) ∧ go n nx ls (.inl (SL.2 j) :: st) h) False))
  | .invokestatic idx => match jl_wr idx with
    | some q => jx_pk (jx_np q.1) st [] (fun as rest => cond (Nat.ble (jx_wg rest) 8) (n < 600 ∧ jx_MWR q.1 q.2 as h (fun r h' => go (n + 1) nx ls (.inl r :: rest) h')) False)
    | none => False
  | i => jx_op 121 (go n) (fun _ _ => False) (fun _ _ => False) i nx tg ls st h
def jl_blk (SL : Nat × (Nat → Int32)) (cut : Nat → Bool) (V : Nat → Nat → jxL → List jxV → jxH → Prop) : Nat → Nat → Nat → jxL → List jxV → jxH → Prop
  | 0, n, pc, ls, st, h => V n pc ls st h
  | f + 1, n, pc, ls, st, h => match jx_ent 121 pc with
    | some (i, nx, tg) => jl_op SL (fun n' pc' ls' st' h' => cond (cut pc') (V n' pc' ls' st' h') (jl_blk SL cut V f n' pc' ls' st' h')) n i nx tg ls st h
    | none => False
def jl_al (q : Nat × Instr × Nat × List Nat) : Bool := match q with
  | (pc, .arraylength, nx, _) => decide (decode (jx_cd 121) pc = .ok (.arraylength, 1)) && Nat.beq nx (pc + 1)
  | _ => true
theorem jl_al_ok : (jx_tb 121).all jl_al = true := by decide +kernel
section JL
variable {p : Program} {l : Launch} {e : Env} {R : Room} {s : State} {m : MethodId} {args : Array Value} {below : List Frame} {meth : Method} {c : Code} {G : jxG} {A : Nat → Prop} {Qf : State → Prop} {SL : Nat × (Nat → Int32)} {c0 s0 : Nat}
theorem jl_call {ω idx pc cs ss : Nat} {hh : List (Nat × Nat × Nat × Nat)} {as rest : List jxV} {h : jxH} {E : Int32 → jxH → Prop} {la : Array Slot} {H : Heap} {locs : List Loc}
    (X : jx_X p R s m args meth c G A 121 cs ss) (hts : ∀ w ∈ jl_lt, w.before args s = true) (hXS : jx_XS A s s.heap) (hst : l.stackTraces = false) (hP : va_P G.1 jx_cl (jx_ws G h) H) (hS : va_S A s.heap H locs) (hla : la.size = jx_mx 121) (hok : ∀ v ∈ as, jx_ok v) (hk1 : ∀ v ∈ as, jx_w1 v)
    (hwr : jl_wr idx = some (ω, hh)) (hn : as.length = jx_np ω) (hrest : jx_wg rest ≤ 8) (hRf : 8 ≤ R.frames) (hRl : 378 ≤ R.locals) (hRc : cs + 1 ≤ R.cells) (hRs : ss + 6 ≤ R.slots)
    (hM : jx_MWR ω hh as h E) (hdg : decode (jx_cd 121) pc = .ok (.invokestatic idx, 3))
    (kk : ∀ (r : Int32) (h' : jxH) (H1 : Heap) (locs1 : List Loc), E r h' → va_P G.1 jx_cl (jx_ws G h') H1 → va_S A s.heap H1 locs1 → W p l e R s m args below meth c H1 locs1 (cs + 1) (ss + 6) Qf (F0 m (pc + 3) la (.int r :: rest.map (jx_cv G)))) :
    W p l e R s m args below meth c H locs cs ss Qf (F0 m pc la ((as.reverse ++ rest).map (jx_cv G))) := by
  have hin := jl_wr_in hwr
  have hck := List.all_eq_true.mp jl_wl_ok _ hin
  simp only [Bool.and_eq_true, decide_eq_true_eq] at hck
  obtain ⟨⟨⟨⟨k1, k2⟩, k3⟩, k4⟩, k5⟩ := hck
  have k2 := Nat.le_of_ble_eq_true k2
  have k3 := Nat.le_of_ble_eq_true k3
  have k4 : jx_rt ω = some .int := eq_of_beq k4
  have k5 := Nat.eq_of_beq_eq_true k5
  have hcls : (jx_nm ω).cls = "DotVaultLaw" := by
    show jx_cn (jx_ow ω) = _
    rw [k5]
    rfl
  obtain ⟨hx, hb, hml, hown, -, hK, hD, hSF, hAw, -⟩ := X
  have hsub : ∀ q, va_A (jx_ws G h) H.size q → A q := fun q hq => hAw h H.size q hS.1 hq
  have hz : ∀ w ∈ ([.methodLink "DotVaultLaw" idx (jx_nm ω), .static (jx_nm ω), .initialized (jx_nm ω).cls, .codeWith (jx_nm ω) (jx_cd ω) (jx_mx ω) (some .int) hh] : List Cond), w ∈ jl_lt ∧ ((w.onTables && w.keeps) = true ∨ ∃ ty, w = .arrayClass ty) := fun w hw => by
    have h1 : w ∈ jl_lz := List.mem_flatMap.mpr ⟨_, hin, hw⟩
    exact ⟨List.mem_append_right _ h1, good_of_word (List.all_eq_true.mp jl_lz_good w h1)⟩
  have htw : ∀ w ∈ jx_tw, w ∈ jl_lt ∧ ((w.onTables && w.keeps) = true ∨ ∃ ty, w = .arrayClass ty) := fun w hw => by
    refine ⟨List.mem_append_left _ hw, ?_⟩
    rcases List.mem_append.mp hw with h1 | h1
    · exact jx_all_good w h1
    · rcases List.mem_append.mp h1 with h2 | h2
      · exact good_of_word (List.all_eq_true.mp jx_xw_good w h2)
      · exact good_of_word (List.all_eq_true.mp jx_lw_good w h2)
  have hgood : GoodIn jl_lt (va_wsS "DotVaultLaw" idx (jx_nm ω) (jx_ww ω hh)) := by
    intro w hw
    simp only [va_wsS, jx_ww, List.mem_append, List.mem_cons, List.not_mem_nil, or_false] at hw
    rcases hw with (rfl | rfl | rfl) | rfl | hw
    · exact hz _ (by simp)
    · exact hz _ (by simp)
    · exact hz _ (by simp)
    · exact hz _ (by simp)
    · exact htw w hw
  have hbl : FrameBlind (va_Pc (as.map (jx_cv G)) (fun U => U.heap.size = H.size ∧ jx_PX G h U ∧ jx_XS (va_A (jx_ws G h) U.heap.size) U U.heap)) := fun a U g mk q => by
    obtain ⟨q0, q1, ⟨qP, qK, qD, qS⟩, qX⟩ := q
    exact ⟨q0, q1, ⟨qP, va_K.moved (u := U) (U := U.calling g mk a) (Vm.Alike.refl U.vm) qK, qD, jx_SF_moved (u := U) (U := U.calling g mk a) (Vm.Alike.refl U.vm) qS⟩, jx_XS.warm (s := U) (U := U.calling g mk a) (State.WarmedH.refl U) qX⟩
  have hpre : ∀ U : State, U.heap = H → s.WarmedH U.vm → va_Pc (as.map (jx_cv G)) (fun U => U.heap.size = H.size ∧ jx_PX G h U ∧ jx_XS (va_A (jx_ws G h) U.heap.size) U U.heap) ((as.map (jx_cv G)).toArray) U := fun U hU hW => by
    refine ⟨rfl, by rw [hU], ⟨by rw [hU]; exact hP, va_K.moved hW.alike hK, (hD h).weaken (fun _ _ _ _ => trivial), ?_⟩, ?_⟩
    · rw [hU]
      exact jx_SF_narrow (jx_SF_moved hW.alike (jx_SF_kept hSF hS.2.1)) hsub
    · rw [hU]
      exact jx_XS.narrow (jx_XS.warm hW (jx_XS.kept hXS hS.2.1)) hsub
  have hr := vx_runSW (p := p) (e := e) (below := below) (meth := meth) (locs := locs) (cells := cs) (slots := ss) (As := as.map (jx_cv G)) (rest := rest.map (jx_cv G)) (n := jx_np ω) (g := F0 m pc la ((as.reverse ++ rest).map (jx_cv G))) (index := idx) (Ts := jl_lt) (own := "DotVaultLaw") (nL := jx_mx 121) (hh := hh) (bytes := jx_cd ω) (maxL := jx_mx ω) (ret := some .int) ⟨hx, hb, hml, hown, hts⟩ (hM l G H.size hst hok hk1) (vx_cwSW (jx_np ω) hts hgood rfl rfl rfl ⟨by rw [hcls]; decide, by rw [hcls]; decide, k1⟩ ⟨by show jx_dp ω + 1 ≤ R.frames; omega, by show 8 + (jx_mx ω + 11) + jx_lc ω ≤ R.locals; omega⟩) ⟨hbl, hpre⟩ rfl (by simpa using hn) hla (by simp [F0]) (lv_room (by rw [jx_cats]; exact hrest)) hdg ⟨hRc, hRs⟩
  intro T hT Y
  obtain ⟨v, st₀, t, T', L, h0, Y', hL, e1, e2, ⟨⟨r, h', hv, hE, hPX⟩, hz9, hk⟩, stp⟩ := hr T hT Y
  have hv' : v = some (.int r) := by
    have := Outcome.returned.inj hv
    rw [this, jx_rv, k4]
  subst hv'
  rw [h0] at hz9 hk
  obtain ⟨t2, a1, b1⟩ := kk r h' T'.heap (locs ++ L) hE (by rw [e1]; exact hPX.1)
    ⟨Nat.le_trans hS.1 (by rw [e1]; exact hz9), fun q h1 h2 => by rw [e1, hk q (Nat.lt_of_lt_of_le h1 hS.1) (fun z => h2 (hsub q z))]; exact hS.2.1 q h1 h2, fun q hq => by
      rcases List.mem_append.mp hq with h9 | h9
      · exact hS.2.2 q h9
      · exact hsub _ (hL q h9)⟩ T' rfl Y'
  exact ⟨t2, stp t2 a1, b1⟩
theorem jl_step {go : Nat → Nat → jxL → List jxV → jxH → Prop} (XX : ∀ n, n ≤ 600 → jx_X p R s m args meth c G A 121 (c0 + n) (s0 + 6 * n)) (hts : ∀ w ∈ jl_lt, w.before args s = true) (hXS : jx_XS A s s.heap) (hst : l.stackTraces = false) (hscr : va_X (G.2.2 34 0) SL.1 SL.2 s s.heap) (hbl : G.2.2 34 0 < s.heap.size) (hbA : ¬ A (G.2.2 34 0)) (hL : SL.1 < 2 ^ 31) (hRf : 8 ≤ R.frames) (hRl : 378 ≤ R.locals)
    (hgo : ∀ n pc ls st h, n ≤ 600 → go n pc ls st h → jx_V p l e R s m args below meth c G A 121 (c0 + n) (s0 + 6 * n) Qf pc ls st h)
    {n pc nx : Nat} {i : Instr} {tg : List Nat} {ls : jxL} {st : List jxV} {h : jxH} (hn : n ≤ 600) (hent : jx_ent 121 pc = some (i, nx, tg)) (hs : jl_op SL go n i nx tg ls st h) : jx_V p l e R s m args below meth c G A 121 (c0 + n) (s0 + 6 * n) Qf pc ls st h := by
  have X := XX n hn
  have X0 := X
  have dft : jx_op 121 (go n) (fun _ _ => False) (fun _ _ => False) i nx tg ls st h → jx_V p l e R s m args below meth c G A 121 (c0 + n) (s0 + 6 * n) Qf pc ls st h := fun hs => by
    refine jx_step X0 (fun t ht => ?_) (fun _ _ _ _ _ _ _ _ _ h9 => False.elim h9) (fun pc ls st h hg => hgo n pc ls st h hn hg) hent hs
    obtain ⟨o, -, -, ⟨⟨r, h', -, h9, -⟩, -⟩, -⟩ := ht
    exact False.elim h9
  obtain ⟨hx, hb, hml, hown, -, hK, hD, hSF, hAw, hret, hlocks, hκ, hR1, hR2, hR3, hR4⟩ := X
  have hsub : n ≤ 600 := hn
  cases i with
  | arraylength =>
    have hdec : decode (jx_cd 121) pc = .ok (.arraylength, 1) ∧ nx = pc + 1 := by
      have := List.all_eq_true.mp jl_al_ok _ (jx_ent_in hent)
      simp only [jl_al, Bool.and_eq_true, decide_eq_true_eq] at this
      exact ⟨this.1, Nat.eq_of_beq_eq_true this.2⟩
    obtain ⟨hdec, rfl⟩ := hdec
    intro H locs la hl hst9 hls hP hS
    obtain ⟨k, b, st', rfl, hk⟩ := jx_r_inv hs
    obtain ⟨hkb, hk⟩ := jx_cond hk
    rw [Bool.and_eq_true] at hkb
    cases Nat.eq_of_beq_eq_true hkb.1
    cases Nat.eq_of_beq_eq_true hkb.2
    exact va_slen hx hb hscr hbl hbA hS hdec (hgo n _ _ _ _ hn hk H locs la hl (jx_oki (jx_okt hst9)) hls hP hS)
  | iaload =>
    have hdec := ((jx_ent_ok hκ hent).1 (show 0 < 1 by decide))
    obtain ⟨hdec, rfl⟩ := hdec
    intro H locs la hl hst9 hls hP hS
    obtain ⟨x, st1, rfl, hk⟩ := jx_i_inv hs
    obtain ⟨k, b, st', rfl, hk⟩ := jx_r_inv hk
    obtain ⟨hkb, hk2⟩ := jx_cond hk
    rw [Bool.and_eq_true] at hkb
    cases Nat.eq_of_beq_eq_true hkb.1
    cases Nat.eq_of_beq_eq_true hkb.2
    obtain ⟨j, ⟨hj, rfl⟩, hk3⟩ := hk2
    have hc : (nI j).toNatClampNeg = j := nI_clamp (by omega)
    refine va_sld hx hb hscr hbl hbA hS (vp_in_nI hj hL) hdec ?_
    rw [hc]
    exact hgo n _ _ _ _ hn hk3 H locs la hl (jx_oki (jx_okt (jx_okt hst9))) hls hP hS
  | invokestatic idx =>
    have hdec := ((jx_ent_ok hκ hent).1 (show 0 < 3 by decide))
    obtain ⟨hdec, rfl⟩ := hdec
    intro H locs la hl hst9 hls hP hS
    have hls0 : la.size = jx_mx 121 := by
      obtain ⟨-, lv, h1, -⟩ := hl
      exact h1.1
    cases hwr : jl_wr idx with
    | none => simp only [jl_op, hwr] at hs
    | some q =>
      simp only [jl_op, hwr] at hs
      obtain ⟨as, rest, h1, rfl, h2, h3⟩ := jx_pk_inv _ _ _ _ hs
      obtain ⟨h4, h5, h6⟩ := jx_cond h3
      rw [List.append_nil] at h6
      have hcc : c0 + 600 ≤ R.cells := (XX 600 (Nat.le_refl _)).2.2.2.2.2.2.2.2.2.2.2.2.2.2.1
      have hss : s0 + 6 * 600 ≤ R.slots := (XX 600 (Nat.le_refl _)).2.2.2.2.2.2.2.2.2.2.2.2.2.2.2
      refine jl_call X0 hts hXS hst hP hS hls0 (fun v hv => hst9 v (List.mem_append_left _ (List.mem_reverse.mpr hv))) h2 hwr h1 (Nat.le_of_ble_eq_true h4) hRf hRl (by omega) (by omega) h6 hdec (fun r h' H1 locs1 hE hP1 hS1 => ?_)
      exact hgo (n + 1) _ _ _ _ (by omega) hE H1 locs1 la hl (jx_oki (fun v hv => hst9 v (List.mem_append_right _ hv))) hls hP1 hS1
  | _ => exact dft hs
theorem jl_blk_ok (XX : ∀ n, n ≤ 600 → jx_X p R s m args meth c G A 121 (c0 + n) (s0 + 6 * n)) (hts : ∀ w ∈ jl_lt, w.before args s = true) (hXS : jx_XS A s s.heap) (hst : l.stackTraces = false) (hscr : va_X (G.2.2 34 0) SL.1 SL.2 s s.heap) (hbl : G.2.2 34 0 < s.heap.size) (hbA : ¬ A (G.2.2 34 0)) (hL : SL.1 < 2 ^ 31) (hRf : 8 ≤ R.frames) (hRl : 378 ≤ R.locals) (cut : Nat → Bool) : ∀ (f n pc : Nat) (ls : jxL) (st : List jxV) (h : jxH), n ≤ 600 → jl_blk SL cut (fun n => jx_V p l e R s m args below meth c G A 121 (c0 + n) (s0 + 6 * n) Qf) f n pc ls st h → jx_V p l e R s m args below meth c G A 121 (c0 + n) (s0 + 6 * n) Qf pc ls st h
  | 0, n, pc, ls, st, h, _, hb => hb
  | f + 1, n, pc, ls, st, h, hn, hb => by
    unfold jl_blk at hb
    cases hent : jx_ent 121 pc with
    | none => rw [hent] at hb; exact False.elim hb
    | some q =>
      obtain ⟨i, nx, tg⟩ := q
      rw [hent] at hb
      refine jl_step XX hts hXS hst hscr hbl hbA hL hRf hRl (fun n' pc' ls' st' h' hn' hg => ?_) hn hent hb
      cases hc : cut pc' with
      | true => simpa only [hc, cond_true] using hg
      | false =>
        have hg' : jl_blk SL cut (fun n => jx_V p l e R s m args below meth c G A 121 (c0 + n) (s0 + 6 * n) Qf) f n' pc' ls' st' h' := by simpa only [hc, cond_false] using hg
        exact jl_blk_ok XX hts hXS hst hscr hbl hbA hL hRf hRl cut f n' pc' ls' st' h' hn' hg'
end JL
end
section
/-! The law's loop over the pure machine. -/
theorem jx_MWR_mono {ω : Nat} {hh : List (Nat × Nat × Nat × Nat)} {as : List jxV} {h : jxH} {E E' : Int32 → jxH → Prop} (hM : jx_MWR ω hh as h E) (hE : ∀ r h', E r h' → E' r h') : jx_MWR ω hh as h E' := by
  intro l G sz hst hok hk1 p e ha hc hk s m args below hf happ hP hK
  obtain ⟨n, o, h1, h2, h3, ⟨⟨⟨r, h', e1, e2, e3⟩, e4⟩, h5⟩⟩ := hM l G sz hst hok hk1 p e ha hc hk s m args below hf happ hP hK
  exact ⟨n, o, h1, h2, h3, ⟨⟨⟨r, h', e1, hE r h' e2, e3⟩, e4⟩, h5⟩⟩
section LC
variable {SL : Nat × (Nat → Int32)} {V : Nat → Nat → jxL → List jxV → jxH → Prop} {k n : Nat} {h : jxH} {o5 o6 : Option jxV}
theorem C_load (rule : ∀ (cut : Nat → Bool) (f n pc : Nat) (ls : jxL) (st : List jxV) (h : jxH), n ≤ 600 → jl_blk SL cut V f n pc ls st h → V n pc ls st h) (hk : 7 * k + 7 ≤ SL.1) (hn : n < 600) (hR : REL h) (nxt : ∀ (n' : Nat) (o5 o6 : Option jxV) (h' : jxH), n' ≤ n + 1 → REL h' → V n' 748 [some (jR 34 0), some (jR 0 0), some (jR 20 0), some (jR 33 0), some (jI (nI (7 * k))), o5, o6] [] h') : V n 104 [some (jR 34 0), some (jR 0 0), some (jR 20 0), some (jR 33 0), some (jI (nI (7 * k))), o5, o6] [] h := by
  have tail : ∀ (k' r2 : Int32) (h2 : jxH), ((k' = nI 0 ∧ h2 20 0 0 = nI 0 ∧ h2 33 0 0 = r2) ∨ (∃ t, 0 < t ∧ t < 3 ∧ k' = nI t ∧ h2 20 0 0 = nI t)) → REL h2 → ∀ o6, V (n + 1) 127 [some (jR 34 0), some (jR 0 0), some (jR 20 0), some (jR 33 0), some (jI (nI (7 * k))), some (jI k'), o6] [jI r2] h2 := by
    intro k' r2 h2 hc hR2 o6
    refine rule (Nat.beq 748) 60 (n + 1) 127 _ _ _ (by omega) ?_
    refine jx_cal S_M_thrown rfl (fun r3 h3 hq => ?_)
    obtain ⟨rfl, rfl⟩ := hq
    rcases hc with ⟨rfl, e1, e2⟩ | ⟨t, t0, t3, rfl, e1⟩
    · refine br_c (fun _ => ?_) (fun q => absurd e1 q)
      refine pk_eq 0 0 (fun _ => ?_) (fun q => absurd rfl q)
      refine Exists.intro 0 (And.intro (And.intro (by decide) rfl) ?_)
      refine And.intro (fun _ => ?_) (fun q => absurd e2 q)
      refine pk_eq 0 0 (fun _ => ?_) (fun q => absurd rfl q)
      exact nxt (n + 1) _ _ _ (Nat.le_refl _) hR2
    · refine br_c (fun _ => ?_) (fun q => absurd e1 q)
      refine pk_eq t 0 (fun q => absurd q (by omega)) (fun _ => ?_)
      exact nxt (n + 1) _ _ _ (Nat.le_refl _) hR2
  refine rule (Nat.beq 127) 60 n 104 _ _ _ (by omega) ?_
  refine Exists.intro (7 * k + 1) (And.intro (And.intro (by omega) (nI_add _ _)) ?_)
  refine And.intro hn (jx_MWR_mono (M_load hR) (fun k1 h1 hq => ?_))
  refine Exists.intro (7 * k + 1) (And.intro (And.intro (by omega) (nI_add _ _)) ?_)
  rcases hq with ⟨rfl, f9, hq⟩ | ⟨t, t0, t3, rfl, hq⟩
  · refine jx_cal hq rfl (fun r2 h2 hq2 => ?_)
    obtain ⟨e1, rfl, e3, e4⟩ := hq2
    exact tail (nI 0) _ h2 (Or.inl ⟨rfl, e1, by rw [e3]⟩) e4 _
  · refine jx_cal hq rfl (fun r2 h2 hq2 => ?_)
    obtain ⟨e1, e4⟩ := hq2
    exact tail (nI t) _ h2 (Or.inr ⟨t, t0, t3, rfl, e1⟩) e4 _
theorem C_print (rule : ∀ (cut : Nat → Bool) (f n pc : Nat) (ls : jxL) (st : List jxV) (h : jxH), n ≤ 600 → jl_blk SL cut V f n pc ls st h → V n pc ls st h) (hk : 7 * k + 7 ≤ SL.1) (hn : n < 600) (hR : REL h) (nxt : ∀ (n' : Nat) (o5 o6 : Option jxV) (h' : jxH), n' ≤ n + 1 → REL h' → V n' 748 [some (jR 34 0), some (jR 0 0), some (jR 20 0), some (jR 33 0), some (jI (nI (7 * k))), o5, o6] [] h') : V n 173 [some (jR 34 0), some (jR 0 0), some (jR 20 0), some (jR 33 0), some (jI (nI (7 * k))), o5, o6] [] h := by
  have tail : ∀ (k' r2 : Int32) (h2 : jxH), ((k' = nI 0 ∧ h2 20 0 0 = nI 0 ∧ h2 33 0 0 = r2) ∨ (∃ t, 0 < t ∧ t < 3 ∧ k' = nI t ∧ h2 20 0 0 = nI t)) → REL h2 → ∀ o6, V (n + 1) 184 [some (jR 34 0), some (jR 0 0), some (jR 20 0), some (jR 33 0), some (jI (nI (7 * k))), some (jI k'), o6] [jI r2] h2 := by
    intro k' r2 h2 hc hR2 o6
    refine rule (Nat.beq 748) 60 (n + 1) 184 _ _ _ (by omega) ?_
    refine jx_cal S_M_thrown rfl (fun r3 h3 hq => ?_)
    obtain ⟨rfl, rfl⟩ := hq
    rcases hc with ⟨rfl, e1, e2⟩ | ⟨t, t0, t3, rfl, e1⟩
    · refine br_c (fun _ => ?_) (fun q => absurd e1 q)
      refine pk_eq 0 0 (fun _ => ?_) (fun q => absurd rfl q)
      refine Exists.intro 0 (And.intro (And.intro (by decide) rfl) ?_)
      refine And.intro (fun _ => ?_) (fun q => absurd e2 q)
      refine pk_eq 0 0 (fun _ => ?_) (fun q => absurd rfl q)
      exact nxt (n + 1) _ _ _ (Nat.le_refl _) hR2
    · refine br_c (fun _ => ?_) (fun q => absurd e1 q)
      refine pk_eq t 0 (fun q => absurd q (by omega)) (fun _ => ?_)
      exact nxt (n + 1) _ _ _ (Nat.le_refl _) hR2
  refine rule (Nat.beq 184) 60 n 173 _ _ _ (by omega) ?_
  refine And.intro hn (jx_MWR_mono (M_print hR) (fun k1 h1 hq => ?_))
  rcases hq with ⟨rfl, f9, hq⟩ | ⟨t, t0, t3, rfl, hq⟩
  · refine jx_cal hq rfl (fun r2 h2 hq2 => ?_)
    obtain ⟨e1, rfl, e3, e4⟩ := hq2
    exact tail (nI 0) _ h2 (Or.inl ⟨rfl, e1, by rw [e3]⟩) e4 _
  · refine jx_cal hq rfl (fun r2 h2 hq2 => ?_)
    obtain ⟨e1, e4⟩ := hq2
    exact tail (nI t) _ h2 (Or.inr ⟨t, t0, t3, rfl, e1⟩) e4 _
theorem C_feed (rule : ∀ (cut : Nat → Bool) (f n pc : Nat) (ls : jxL) (st : List jxV) (h : jxH), n ≤ 600 → jl_blk SL cut V f n pc ls st h → V n pc ls st h) (hk : 7 * k + 7 ≤ SL.1) (hn : n < 600) (hR : REL h) (nxt : ∀ (n' : Nat) (o5 o6 : Option jxV) (h' : jxH), n' ≤ n + 1 → REL h' → V n' 748 [some (jR 34 0), some (jR 0 0), some (jR 20 0), some (jR 33 0), some (jI (nI (7 * k))), o5, o6] [] h') : V n 498 [some (jR 34 0), some (jR 0 0), some (jR 20 0), some (jR 33 0), some (jI (nI (7 * k))), o5, o6] [] h := by
  have tail : ∀ (k' r2 : Int32) (h2 : jxH), ((k' = nI 0 ∧ h2 20 0 0 = nI 0 ∧ h2 33 0 0 = r2) ∨ (∃ t, 0 < t ∧ t < 3 ∧ k' = nI t ∧ h2 20 0 0 = nI t)) → REL h2 → ∀ o6, V (n + 1) 533 [some (jR 34 0), some (jR 0 0), some (jR 20 0), some (jR 33 0), some (jI (nI (7 * k))), some (jI k'), o6] [jI r2] h2 := by
    intro k' r2 h2 hc hR2 o6
    refine rule (Nat.beq 748) 60 (n + 1) 533 _ _ _ (by omega) ?_
    refine jx_cal S_M_thrown rfl (fun r3 h3 hq => ?_)
    obtain ⟨rfl, rfl⟩ := hq
    rcases hc with ⟨rfl, e1, e2⟩ | ⟨t, t0, t3, rfl, e1⟩
    · refine br_c (fun _ => ?_) (fun q => absurd e1 q)
      refine pk_eq 0 0 (fun _ => ?_) (fun q => absurd rfl q)
      refine Exists.intro 0 (And.intro (And.intro (by decide) rfl) ?_)
      refine And.intro (fun _ => ?_) (fun q => absurd e2 q)
      refine pk_eq 0 0 (fun _ => ?_) (fun q => absurd rfl q)
      exact nxt (n + 1) _ _ _ (Nat.le_refl _) hR2
    · refine br_c (fun _ => ?_) (fun q => absurd e1 q)
      refine pk_eq t 0 (fun q => absurd q (by omega)) (fun _ => ?_)
      exact nxt (n + 1) _ _ _ (Nat.le_refl _) hR2
  refine rule (Nat.beq 533) 60 n 498 _ _ _ (by omega) ?_
  refine Exists.intro (7 * k + 1) (And.intro (And.intro (by omega) (nI_add _ _)) ?_)
  refine Exists.intro (7 * k + 2) (And.intro (And.intro (by omega) (nI_add _ _)) ?_)
  refine And.intro hn (jx_MWR_mono (M_feed hR) (fun k1 h1 hq => ?_))
  refine Exists.intro (7 * k + 1) (And.intro (And.intro (by omega) (nI_add _ _)) ?_)
  refine Exists.intro (7 * k + 2) (And.intro (And.intro (by omega) (nI_add _ _)) ?_)
  rcases hq with ⟨rfl, f9, hq⟩ | ⟨t, t0, t3, rfl, hq⟩
  · refine jx_cal hq rfl (fun r2 h2 hq2 => ?_)
    obtain ⟨e1, rfl, e3, e4⟩ := hq2
    exact tail (nI 0) _ h2 (Or.inl ⟨rfl, e1, by rw [e3]⟩) e4 _
  · refine jx_cal hq rfl (fun r2 h2 hq2 => ?_)
    obtain ⟨e1, e4⟩ := hq2
    exact tail (nI t) _ h2 (Or.inr ⟨t, t0, t3, rfl, e1⟩) e4 _
theorem C_errors (rule : ∀ (cut : Nat → Bool) (f n pc : Nat) (ls : jxL) (st : List jxV) (h : jxH), n ≤ 600 → jl_blk SL cut V f n pc ls st h → V n pc ls st h) (hk : 7 * k + 7 ≤ SL.1) (hn : n < 600) (hR : REL h) (nxt : ∀ (n' : Nat) (o5 o6 : Option jxV) (h' : jxH), n' ≤ n + 1 → REL h' → V n' 748 [some (jR 34 0), some (jR 0 0), some (jR 20 0), some (jR 33 0), some (jI (nI (7 * k))), o5, o6] [] h') : V n 566 [some (jR 34 0), some (jR 0 0), some (jR 20 0), some (jR 33 0), some (jI (nI (7 * k))), o5, o6] [] h := by
  have tail : ∀ (k' r2 : Int32) (h2 : jxH), ((k' = nI 0 ∧ h2 20 0 0 = nI 0 ∧ h2 33 0 0 = r2) ∨ (∃ t, 0 < t ∧ t < 3 ∧ k' = nI t ∧ h2 20 0 0 = nI t)) → REL h2 → ∀ o6, V (n + 1) 589 [some (jR 34 0), some (jR 0 0), some (jR 20 0), some (jR 33 0), some (jI (nI (7 * k))), some (jI k'), o6] [jI r2] h2 := by
    intro k' r2 h2 hc hR2 o6
    refine rule (Nat.beq 748) 60 (n + 1) 589 _ _ _ (by omega) ?_
    refine jx_cal S_M_thrown rfl (fun r3 h3 hq => ?_)
    obtain ⟨rfl, rfl⟩ := hq
    rcases hc with ⟨rfl, e1, e2⟩ | ⟨t, t0, t3, rfl, e1⟩
    · refine br_c (fun _ => ?_) (fun q => absurd e1 q)
      refine pk_eq 0 0 (fun _ => ?_) (fun q => absurd rfl q)
      refine Exists.intro 0 (And.intro (And.intro (by decide) rfl) ?_)
      refine And.intro (fun _ => ?_) (fun q => absurd e2 q)
      refine pk_eq 0 0 (fun _ => ?_) (fun q => absurd rfl q)
      exact nxt (n + 1) _ _ _ (Nat.le_refl _) hR2
    · refine br_c (fun _ => ?_) (fun q => absurd e1 q)
      refine pk_eq t 0 (fun q => absurd q (by omega)) (fun _ => ?_)
      exact nxt (n + 1) _ _ _ (Nat.le_refl _) hR2
  refine rule (Nat.beq 589) 60 n 566 _ _ _ (by omega) ?_
  refine Exists.intro (7 * k + 1) (And.intro (And.intro (by omega) (nI_add _ _)) ?_)
  refine And.intro hn (jx_MWR_mono (M_errors hR) (fun k1 h1 hq => ?_))
  refine Exists.intro (7 * k + 1) (And.intro (And.intro (by omega) (nI_add _ _)) ?_)
  rcases hq with ⟨rfl, f9, hq⟩ | ⟨t, t0, t3, rfl, hq⟩
  · refine jx_cal hq rfl (fun r2 h2 hq2 => ?_)
    obtain ⟨e1, rfl, e3, e4⟩ := hq2
    exact tail (nI 0) _ h2 (Or.inl ⟨rfl, e1, by rw [e3]⟩) e4 _
  · refine jx_cal hq rfl (fun r2 h2 hq2 => ?_)
    obtain ⟨e1, e4⟩ := hq2
    exact tail (nI t) _ h2 (Or.inr ⟨t, t0, t3, rfl, e1⟩) e4 _
theorem C_rebuild (rule : ∀ (cut : Nat → Bool) (f n pc : Nat) (ls : jxL) (st : List jxV) (h : jxH), n ≤ 600 → jl_blk SL cut V f n pc ls st h → V n pc ls st h) (hk : 7 * k + 7 ≤ SL.1) (hn : n < 600) (hR : REL h) (nxt : ∀ (n' : Nat) (o5 o6 : Option jxV) (h' : jxH), n' ≤ n + 1 → REL h' → V n' 748 [some (jR 34 0), some (jR 0 0), some (jR 20 0), some (jR 33 0), some (jI (nI (7 * k))), o5, o6] [] h') : V n 635 [some (jR 34 0), some (jR 0 0), some (jR 20 0), some (jR 33 0), some (jI (nI (7 * k))), o5, o6] [] h := by
  have tail : ∀ (k' r2 : Int32) (h2 : jxH), ((k' = nI 0 ∧ h2 20 0 0 = nI 0 ∧ h2 33 0 0 = r2) ∨ (∃ t, 0 < t ∧ t < 3 ∧ k' = nI t ∧ h2 20 0 0 = nI t)) → REL h2 → ∀ o6, V (n + 1) 646 [some (jR 34 0), some (jR 0 0), some (jR 20 0), some (jR 33 0), some (jI (nI (7 * k))), some (jI k'), o6] [jI r2] h2 := by
    intro k' r2 h2 hc hR2 o6
    refine rule (Nat.beq 748) 60 (n + 1) 646 _ _ _ (by omega) ?_
    refine jx_cal S_M_thrown rfl (fun r3 h3 hq => ?_)
    obtain ⟨rfl, rfl⟩ := hq
    rcases hc with ⟨rfl, e1, e2⟩ | ⟨t, t0, t3, rfl, e1⟩
    · refine br_c (fun _ => ?_) (fun q => absurd e1 q)
      refine pk_eq 0 0 (fun _ => ?_) (fun q => absurd rfl q)
      refine Exists.intro 0 (And.intro (And.intro (by decide) rfl) ?_)
      refine And.intro (fun _ => ?_) (fun q => absurd e2 q)
      refine pk_eq 0 0 (fun _ => ?_) (fun q => absurd rfl q)
      exact nxt (n + 1) _ _ _ (Nat.le_refl _) hR2
    · refine br_c (fun _ => ?_) (fun q => absurd e1 q)
      refine pk_eq t 0 (fun q => absurd q (by omega)) (fun _ => ?_)
      exact nxt (n + 1) _ _ _ (Nat.le_refl _) hR2
  refine rule (Nat.beq 646) 60 n 635 _ _ _ (by omega) ?_
  refine And.intro hn (jx_MWR_mono (M_rebuild hR) (fun k1 h1 hq => ?_))
  rcases hq with ⟨rfl, f9, hq⟩ | ⟨t, t0, t3, rfl, hq⟩
  · refine jx_cal hq rfl (fun r2 h2 hq2 => ?_)
    obtain ⟨e1, rfl, e3, e4⟩ := hq2
    exact tail (nI 0) _ h2 (Or.inl ⟨rfl, e1, by rw [e3]⟩) e4 _
  · refine jx_cal hq rfl (fun r2 h2 hq2 => ?_)
    obtain ⟨e1, e4⟩ := hq2
    exact tail (nI t) _ h2 (Or.inr ⟨t, t0, t3, rfl, e1⟩) e4 _
theorem C_out (rule : ∀ (cut : Nat → Bool) (f n pc : Nat) (ls : jxL) (st : List jxV) (h : jxH), n ≤ 600 → jl_blk SL cut V f n pc ls st h → V n pc ls st h) (hk : 7 * k + 7 ≤ SL.1) (hn : n < 600) (hR : REL h) (nxt : ∀ (n' : Nat) (o5 o6 : Option jxV) (h' : jxH), n' ≤ n + 1 → REL h' → V n' 748 [some (jR 34 0), some (jR 0 0), some (jR 20 0), some (jR 33 0), some (jI (nI (7 * k))), o5, o6] [] h') : V n 679 [some (jR 34 0), some (jR 0 0), some (jR 20 0), some (jR 33 0), some (jI (nI (7 * k))), o5, o6] [] h := by
  have tail : ∀ (k' r2 : Int32) (h2 : jxH), ((k' = nI 0 ∧ h2 20 0 0 = nI 0 ∧ h2 33 0 0 = r2) ∨ (∃ t, 0 < t ∧ t < 3 ∧ k' = nI t ∧ h2 20 0 0 = nI t)) → REL h2 → ∀ o6, V (n + 1) 702 [some (jR 34 0), some (jR 0 0), some (jR 20 0), some (jR 33 0), some (jI (nI (7 * k))), some (jI k'), o6] [jI r2] h2 := by
    intro k' r2 h2 hc hR2 o6
    refine rule (Nat.beq 748) 60 (n + 1) 702 _ _ _ (by omega) ?_
    refine jx_cal S_M_thrown rfl (fun r3 h3 hq => ?_)
    obtain ⟨rfl, rfl⟩ := hq
    rcases hc with ⟨rfl, e1, e2⟩ | ⟨t, t0, t3, rfl, e1⟩
    · refine br_c (fun _ => ?_) (fun q => absurd e1 q)
      refine pk_eq 0 0 (fun _ => ?_) (fun q => absurd rfl q)
      refine Exists.intro 0 (And.intro (And.intro (by decide) rfl) ?_)
      refine And.intro (fun _ => ?_) (fun q => absurd e2 q)
      refine pk_eq 0 0 (fun _ => ?_) (fun q => absurd rfl q)
      exact nxt (n + 1) _ _ _ (Nat.le_refl _) hR2
    · refine br_c (fun _ => ?_) (fun q => absurd e1 q)
      refine pk_eq t 0 (fun q => absurd q (by omega)) (fun _ => ?_)
      exact nxt (n + 1) _ _ _ (Nat.le_refl _) hR2
  refine rule (Nat.beq 702) 60 n 679 _ _ _ (by omega) ?_
  refine Exists.intro (7 * k + 1) (And.intro (And.intro (by omega) (nI_add _ _)) ?_)
  refine And.intro hn (jx_MWR_mono (M_out hR) (fun k1 h1 hq => ?_))
  refine Exists.intro (7 * k + 1) (And.intro (And.intro (by omega) (nI_add _ _)) ?_)
  rcases hq with ⟨rfl, f9, hq⟩ | ⟨t, t0, t3, rfl, hq⟩
  · refine jx_cal hq rfl (fun r2 h2 hq2 => ?_)
    obtain ⟨e1, rfl, e3, e4⟩ := hq2
    exact tail (nI 0) _ h2 (Or.inl ⟨rfl, e1, by rw [e3]⟩) e4 _
  · refine jx_cal hq rfl (fun r2 h2 hq2 => ?_)
    obtain ⟨e1, e4⟩ := hq2
    exact tail (nI t) _ h2 (Or.inr ⟨t, t0, t3, rfl, e1⟩) e4 _
theorem C_dot (rule : ∀ (cut : Nat → Bool) (f n pc : Nat) (ls : jxL) (st : List jxV) (h : jxH), n ≤ 600 → jl_blk SL cut V f n pc ls st h → V n pc ls st h) (hk : 7 * k + 7 ≤ SL.1) (hn : n < 600) (hR : REL h) (nxt : ∀ (n' : Nat) (o5 o6 : Option jxV) (h' : jxH), n' ≤ n + 1 → REL h' → V n' 748 [some (jR 34 0), some (jR 0 0), some (jR 20 0), some (jR 33 0), some (jI (nI (7 * k))), o5, o6] [] h') : V n 217 [some (jR 34 0), some (jR 0 0), some (jR 20 0), some (jR 33 0), some (jI (nI (7 * k))), o5, o6] [] h := by
  have tail : ∀ (k' r2 : Int32) (h2 : jxH), ((k' = nI 0 ∧ h2 20 0 0 = nI 0 ∧ (r2 = 0 → h2 33 0 0 = nI 0) ∧ (¬ r2 = 0 → h2 33 0 0 = nI 1)) ∨ (∃ t, 0 < t ∧ t < 3 ∧ k' = nI t ∧ h2 20 0 0 = nI t)) → REL h2 → ∀ o6, V (n + 1) 264 [some (jR 34 0), some (jR 0 0), some (jR 20 0), some (jR 33 0), some (jI (nI (7 * k))), some (jI k'), o6] [jI r2] h2 := by
    intro k' r2 h2 hc hR2 o6
    refine rule (Nat.beq 748) 60 (n + 1) 264 _ _ _ (by omega) ?_
    refine jx_cal S_M_thrown rfl (fun r3 h3 hq => ?_)
    obtain ⟨rfl, rfl⟩ := hq
    rcases hc with ⟨rfl, e1, e2, e2'⟩ | ⟨t, t0, t3, rfl, e1⟩
    · refine br_c (fun _ => ?_) (fun q => absurd e1 q)
      refine pk_eq 0 0 (fun _ => ?_) (fun q => absurd rfl q)
      refine Exists.intro 0 (And.intro (And.intro (by decide) rfl) ?_)
      refine br_c (fun z => ?_) (fun z => ?_)
      · refine And.intro (fun _ => ?_) (fun q => absurd (e2 z) q)
        refine pk_eq 0 0 (fun _ => ?_) (fun q => absurd rfl q)
        exact nxt (n + 1) _ _ _ (Nat.le_refl _) hR2
      · refine And.intro (fun _ => ?_) (fun q => absurd (e2' z) q)
        refine pk_eq 0 0 (fun _ => ?_) (fun q => absurd rfl q)
        exact nxt (n + 1) _ _ _ (Nat.le_refl _) hR2
    · refine br_c (fun _ => ?_) (fun q => absurd e1 q)
      refine pk_eq t 0 (fun q => absurd q (by omega)) (fun _ => ?_)
      exact nxt (n + 1) _ _ _ (Nat.le_refl _) hR2
  refine rule (Nat.beq 264) 60 n 217 _ _ _ (by omega) ?_
  refine Exists.intro (7 * k + 1) (And.intro (And.intro (by omega) (nI_add _ _)) ?_)
  refine Exists.intro (7 * k + 2) (And.intro (And.intro (by omega) (nI_add _ _)) ?_)
  refine Exists.intro (7 * k + 3) (And.intro (And.intro (by omega) (nI_add _ _)) ?_)
  refine And.intro hn (jx_MWR_mono (M_dot hR) (fun k1 h1 hq => ?_))
  refine Exists.intro (7 * k + 1) (And.intro (And.intro (by omega) (nI_add _ _)) ?_)
  refine Exists.intro (7 * k + 2) (And.intro (And.intro (by omega) (nI_add _ _)) ?_)
  refine Exists.intro (7 * k + 3) (And.intro (And.intro (by omega) (nI_add _ _)) ?_)
  rcases hq with ⟨rfl, f9, r, hq, g1, g2⟩ | ⟨t, t0, t3, rfl, hq⟩
  · refine jx_cal hq rfl (fun r2 h2 hq2 => ?_)
    obtain ⟨e1, rfl, e3, e4⟩ := hq2
    exact tail (nI 0) _ h2 (Or.inl ⟨rfl, e1, by rw [e3]; exact g1, by rw [e3]; exact g2⟩) e4 _
  · refine jx_cal hq rfl (fun r2 h2 hq2 => ?_)
    obtain ⟨e1, e4⟩ := hq2
    exact tail (nI t) _ h2 (Or.inr ⟨t, t0, t3, rfl, e1⟩) e4 _
theorem C_blot (rule : ∀ (cut : Nat → Bool) (f n pc : Nat) (ls : jxL) (st : List jxV) (h : jxH), n ≤ 600 → jl_blk SL cut V f n pc ls st h → V n pc ls st h) (hk : 7 * k + 7 ≤ SL.1) (hn : n < 600) (hR : REL h) (nxt : ∀ (n' : Nat) (o5 o6 : Option jxV) (h' : jxH), n' ≤ n + 1 → REL h' → V n' 748 [some (jR 34 0), some (jR 0 0), some (jR 20 0), some (jR 33 0), some (jI (nI (7 * k))), o5, o6] [] h') : V n 304 [some (jR 34 0), some (jR 0 0), some (jR 20 0), some (jR 33 0), some (jI (nI (7 * k))), o5, o6] [] h := by
  have tail : ∀ (k' r2 : Int32) (h2 : jxH), ((k' = nI 0 ∧ h2 20 0 0 = nI 0 ∧ h2 33 0 0 = r2) ∨ (∃ t, 0 < t ∧ t < 3 ∧ k' = nI t ∧ h2 20 0 0 = nI t)) → REL h2 → ∀ o6, V (n + 1) 405 [some (jR 34 0), some (jR 0 0), some (jR 20 0), some (jR 33 0), some (jI (nI (7 * k))), some (jI k'), o6] [jI r2] h2 := by
    intro k' r2 h2 hc hR2 o6
    refine rule (Nat.beq 748) 60 (n + 1) 405 _ _ _ (by omega) ?_
    refine jx_cal S_M_thrown rfl (fun r3 h3 hq => ?_)
    obtain ⟨rfl, rfl⟩ := hq
    rcases hc with ⟨rfl, e1, e2⟩ | ⟨t, t0, t3, rfl, e1⟩
    · refine br_c (fun _ => ?_) (fun q => absurd e1 q)
      refine pk_eq 0 0 (fun _ => ?_) (fun q => absurd rfl q)
      refine Exists.intro 0 (And.intro (And.intro (by decide) rfl) ?_)
      refine And.intro (fun _ => ?_) (fun q => absurd e2 q)
      refine pk_eq 0 0 (fun _ => ?_) (fun q => absurd rfl q)
      exact nxt (n + 1) _ _ _ (Nat.le_refl _) hR2
    · refine br_c (fun _ => ?_) (fun q => absurd e1 q)
      refine pk_eq t 0 (fun q => absurd q (by omega)) (fun _ => ?_)
      exact nxt (n + 1) _ _ _ (Nat.le_refl _) hR2
  have mid : ∀ c : Bool, (c = true → ¬ SL.2 (7 * k + 6) = 0) → (c = false → SL.2 (7 * k + 6) = 0) → V n 350 [some (jR 34 0), some (jR 0 0), some (jR 20 0), some (jR 33 0), some (jI (nI (7 * k))), o5, o6] [jI (nI c.toNat), jI (SL.2 (7 * k + 5)), jI (SL.2 (7 * k + 4)), jI (SL.2 (7 * k + 3)), jI (SL.2 (7 * k + 2)), jI (SL.2 (7 * k + 1)), jR 0 0] h := by
    intro c hc1 hc2
    refine rule (Nat.beq 405) 60 n 350 _ _ _ (by omega) ?_
    refine And.intro hn (jx_MWR_mono (M_blot (c := c) hR) (fun k1 h1 hq => ?_))
    refine Exists.intro (7 * k + 1) (And.intro (And.intro (by omega) (nI_add _ _)) ?_)
    refine Exists.intro (7 * k + 2) (And.intro (And.intro (by omega) (nI_add _ _)) ?_)
    refine Exists.intro (7 * k + 3) (And.intro (And.intro (by omega) (nI_add _ _)) ?_)
    refine Exists.intro (7 * k + 4) (And.intro (And.intro (by omega) (nI_add _ _)) ?_)
    refine Exists.intro (7 * k + 5) (And.intro (And.intro (by omega) (nI_add _ _)) ?_)
    refine Exists.intro (7 * k + 6) (And.intro (And.intro (by omega) (nI_add _ _)) ?_)
    have fin : jx_MW 64 [jR 20 0, jI (SL.2 (7 * k + 1)), jI (SL.2 (7 * k + 2)), jI (SL.2 (7 * k + 3)), jI (SL.2 (7 * k + 4)), jI (SL.2 (7 * k + 5)), jI (nI c.toNat)] h1 (fun r2 h2 => V (n + 1) 405 [some (jR 34 0), some (jR 0 0), some (jR 20 0), some (jR 33 0), some (jI (nI (7 * k))), some (jI k1), o6] [jI r2] h2) := by
      rcases hq with ⟨rfl, f9, hq⟩ | ⟨t, t0, t3, rfl, hq⟩
      · refine jx_cal hq rfl (fun r2 h2 hq2 => ?_)
        obtain ⟨e1, rfl, e3, e4⟩ := hq2
        exact tail (nI 0) _ h2 (Or.inl ⟨rfl, e1, by rw [e3]⟩) e4 _
      · refine jx_cal hq rfl (fun r2 h2 hq2 => ?_)
        obtain ⟨e1, e4⟩ := hq2
        exact tail (nI t) _ h2 (Or.inr ⟨t, t0, t3, rfl, e1⟩) e4 _
    refine br_c (fun z => ?_) (fun z => ?_)
    · cases c with
      | true => exact absurd z (hc1 rfl)
      | false => exact jx_cal fin rfl (fun _ _ q => q)
    · cases c with
      | true => exact jx_cal fin rfl (fun _ _ q => q)
      | false => exact absurd (hc2 rfl) z
  refine rule (Nat.beq 350) 60 n 304 _ _ _ (by omega) ?_
  refine Exists.intro (7 * k + 1) (And.intro (And.intro (by omega) (nI_add _ _)) ?_)
  refine Exists.intro (7 * k + 2) (And.intro (And.intro (by omega) (nI_add _ _)) ?_)
  refine Exists.intro (7 * k + 3) (And.intro (And.intro (by omega) (nI_add _ _)) ?_)
  refine Exists.intro (7 * k + 4) (And.intro (And.intro (by omega) (nI_add _ _)) ?_)
  refine Exists.intro (7 * k + 5) (And.intro (And.intro (by omega) (nI_add _ _)) ?_)
  refine Exists.intro (7 * k + 6) (And.intro (And.intro (by omega) (nI_add _ _)) ?_)
  refine br_c (fun z => ?_) (fun z => ?_)
  · exact mid false (fun q => by cases q) (fun _ => z)
  · exact mid true (fun _ => z) (fun q => by cases q)
theorem C_flip (rule : ∀ (cut : Nat → Bool) (f n pc : Nat) (ls : jxL) (st : List jxV) (h : jxH), n ≤ 600 → jl_blk SL cut V f n pc ls st h → V n pc ls st h) (hk : 7 * k + 7 ≤ SL.1) (hn : n < 600) (hR : REL h) (nxt : ∀ (n' : Nat) (o5 o6 : Option jxV) (h' : jxH), n' ≤ n + 1 → REL h' → V n' 748 [some (jR 34 0), some (jR 0 0), some (jR 20 0), some (jR 33 0), some (jI (nI (7 * k))), o5, o6] [] h') : V n 438 [some (jR 34 0), some (jR 0 0), some (jR 20 0), some (jR 33 0), some (jI (nI (7 * k))), o5, o6] [] h := by
  refine rule (Nat.beq 748) 80 n 438 _ _ _ (by omega) ?_
  refine Exists.intro (7 * k + 1) (And.intro (And.intro (by omega) (nI_add _ _)) ?_)
  refine Exists.intro (7 * k + 2) (And.intro (And.intro (by omega) (nI_add _ _)) ?_)
  refine Exists.intro (7 * k + 3) (And.intro (And.intro (by omega) (nI_add _ _)) ?_)
  refine And.intro hn (jx_MWR_mono (M_flip hR) (fun k1 h1 hq => ?_))
  refine Exists.intro (7 * k + 1) (And.intro (And.intro (by omega) (nI_add _ _)) ?_)
  refine Exists.intro (7 * k + 2) (And.intro (And.intro (by omega) (nI_add _ _)) ?_)
  refine Exists.intro (7 * k + 3) (And.intro (And.intro (by omega) (nI_add _ _)) ?_)
  obtain ⟨t, t3, rfl, hq⟩ := hq
  refine jx_cal hq rfl (fun r2 h2 hq2 => ?_)
  obtain ⟨e1, e4⟩ := hq2
  refine jx_cal S_M_thrown rfl (fun r3 h3 hq => ?_)
  obtain ⟨rfl, rfl⟩ := hq
  refine br_c (fun _ => ?_) (fun q => absurd e1 q)
  exact nxt (n + 1) _ _ _ (Nat.le_refl _) e4
theorem C_wipe (rule : ∀ (cut : Nat → Bool) (f n pc : Nat) (ls : jxL) (st : List jxV) (h : jxH), n ≤ 600 → jl_blk SL cut V f n pc ls st h → V n pc ls st h) (hk : 7 * k + 7 ≤ SL.1) (hn : n < 600) (hR : REL h) (nxt : ∀ (n' : Nat) (o5 o6 : Option jxV) (h' : jxH), n' ≤ n + 1 → REL h' → V n' 748 [some (jR 34 0), some (jR 0 0), some (jR 20 0), some (jR 33 0), some (jI (nI (7 * k))), o5, o6] [] h') : V n 160 [some (jR 34 0), some (jR 0 0), some (jR 20 0), some (jR 33 0), some (jI (nI (7 * k))), o5, o6] [] h := by
  refine rule (Nat.beq 748) 40 n 160 _ _ _ (by omega) ?_
  refine jx_cal S_V_wipe rfl (fun r2 h2 hq2 => ?_)
  obtain ⟨rfl, rfl⟩ := hq2
  refine jx_cal (Q_wipe hR) rfl (fun r2 h2 hq2 => ?_)
  obtain ⟨e1, e2, e3, e4⟩ := hq2
  refine br_c (fun _ => ?_) (fun q => absurd e2.symm q)
  exact nxt n _ _ _ (Nat.le_succ _) e4
theorem C_missing (rule : ∀ (cut : Nat → Bool) (f n pc : Nat) (ls : jxL) (st : List jxV) (h : jxH), n ≤ 600 → jl_blk SL cut V f n pc ls st h → V n pc ls st h) (hk : 7 * k + 7 ≤ SL.1) (hn : n < 600) (hR : REL h) (nxt : ∀ (n' : Nat) (o5 o6 : Option jxV) (h' : jxH), n' ≤ n + 1 → REL h' → V n' 748 [some (jR 34 0), some (jR 0 0), some (jR 20 0), some (jR 33 0), some (jI (nI (7 * k))), o5, o6] [] h') : V n 622 [some (jR 34 0), some (jR 0 0), some (jR 20 0), some (jR 33 0), some (jI (nI (7 * k))), o5, o6] [] h := by
  obtain ⟨r, q1, q2⟩ := Q_missing hR
  refine rule (Nat.beq 748) 40 n 622 _ _ _ (by omega) ?_
  refine jx_cal q1 rfl (fun r2 h2 hq2 => ?_)
  obtain ⟨rfl, rfl⟩ := hq2
  refine jx_cal q2 rfl (fun r2 h2 hq2 => ?_)
  obtain ⟨e1, e2, e3, e4⟩ := hq2
  refine br_c (fun _ => ?_) (fun q => absurd e2.symm q)
  exact nxt n _ _ _ (Nat.le_succ _) e4
theorem C_reset (rule : ∀ (cut : Nat → Bool) (f n pc : Nat) (ls : jxL) (st : List jxV) (h : jxH), n ≤ 600 → jl_blk SL cut V f n pc ls st h → V n pc ls st h) (hk : 7 * k + 7 ≤ SL.1) (hn : n < 600) (hR : REL h) (nxt : ∀ (n' : Nat) (o5 o6 : Option jxV) (h' : jxH), n' ≤ n + 1 → REL h' → V n' 748 [some (jR 34 0), some (jR 0 0), some (jR 20 0), some (jR 33 0), some (jI (nI (7 * k))), o5, o6] [] h') : V n 735 [some (jR 34 0), some (jR 0 0), some (jR 20 0), some (jR 33 0), some (jI (nI (7 * k))), o5, o6] [] h := by
  refine rule (Nat.beq 748) 40 n 735 _ _ _ (by omega) ?_
  refine jx_cal (Q_reset hR) rfl (fun r2 h2 hq2 => ?_)
  refine jx_cal hq2 rfl (fun r3 h3 hq3 => ?_)
  obtain ⟨e1, e2, e3, e4⟩ := hq3
  refine br_c (fun _ => ?_) (fun q => absurd e2.symm q)
  exact nxt n _ _ _ (Nat.le_succ _) e4
end LC
def lc_cut (pc : Nat) : Bool := [104, 160, 173, 217, 304, 438, 498, 566, 622, 635, 679, 735, 748, 754].any (Nat.beq pc)
theorem jl_sub {a k : Nat} (ha : a ≤ 3584) (hk : k ≤ 512) : nI a - nI 7 < nI (7 * k) ↔ a < 7 * k + 7 := by
  rw [Int32.lt_iff_toInt_lt, pk_sub_toInt (a := a) (b := 7) (by omega) (by decide), nI_toInt (by omega)]
  omega
theorem jl_loop {SL : Nat × (Nat → Int32)} {V : Nat → Nat → jxL → List jxV → jxH → Prop} (rule : ∀ (cut : Nat → Bool) (f n pc : Nat) (ls : jxL) (st : List jxV) (h : jxH), n ≤ 600 → jl_blk SL cut V f n pc ls st h → V n pc ls st h) (hL : SL.1 ≤ 3584) (fin : ∀ (n : Nat) (ls : jxL) (h : jxH), n ≤ 512 → ls.length = 7 → V n 754 ls [] h) : ∀ k, k ≤ 512 → ∀ (n : Nat) (o5 o6 : Option jxV) (h : jxH), n ≤ k → REL h → V n 23 [some (jR 34 0), some (jR 0 0), some (jR 20 0), some (jR 33 0), some (jI (nI (7 * k))), o5, o6] [] h := by
  refine jl_up 512 ?_ ?_
  · intro n o5 o6 h hn hR
    refine rule lc_cut 20 n 23 _ _ _ (by omega) ?_
    refine br_c (fun _ => ?_) (fun q => absurd ?_ q)
    · exact fin n _ h hn rfl
    · exact (jl_sub hL (Nat.le_refl _)).mpr (by omega)
  · intro k hk9 ih n o5 o6 h hn hR
    have step : ∀ (n' : Nat) (o5 o6 : Option jxV) (h' : jxH), n' ≤ n + 1 → REL h' → V n' 748 [some (jR 34 0), some (jR 0 0), some (jR 20 0), some (jR 33 0), some (jI (nI (7 * k))), o5, o6] [] h' := by
      intro n' o5 o6 h' hn' hR'
      refine rule (Nat.beq 23) 20 n' 748 _ _ _ (by omega) ?_
      exact jv_to (V := V n') (ih n' o5 o6 h' (by omega) hR') (by rw [nI_add, show 7 * k + 7 = 7 * (k + 1) by omega]) rfl rfl
    refine rule lc_cut 20 n 23 _ _ _ (by omega) ?_
    refine br_c (fun _ => ?_) (fun q => ?_)
    · exact fin n _ h (by omega) rfl
    have hk : 7 * k + 7 ≤ SL.1 := Nat.not_lt.mp (fun z => q ((jl_sub hL (by omega)).mpr z))
    refine Exists.intro (7 * k) (And.intro (And.intro (by omega) rfl) ?_)
    refine And.intro (fun _ => ?_) (fun _ => ?_)
    · exact C_load rule hk (by omega) hR step
    refine And.intro (fun _ => ?_) (fun _ => ?_)
    · exact C_wipe rule hk (by omega) hR step
    refine And.intro (fun _ => ?_) (fun _ => ?_)
    · exact C_print rule hk (by omega) hR step
    refine And.intro (fun _ => ?_) (fun _ => ?_)
    · exact C_dot rule hk (by omega) hR step
    refine And.intro (fun _ => ?_) (fun _ => ?_)
    · exact C_blot rule hk (by omega) hR step
    refine And.intro (fun _ => ?_) (fun _ => ?_)
    · exact C_flip rule hk (by omega) hR step
    refine And.intro (fun _ => ?_) (fun _ => ?_)
    · exact C_feed rule hk (by omega) hR step
    refine And.intro (fun _ => ?_) (fun _ => ?_)
    · exact C_errors rule hk (by omega) hR step
    refine And.intro (fun _ => ?_) (fun _ => ?_)
    · exact C_missing rule hk (by omega) hR step
    refine And.intro (fun _ => ?_) (fun _ => ?_)
    · exact C_rebuild rule hk (by omega) hR step
    refine And.intro (fun _ => ?_) (fun _ => ?_)
    · exact C_out rule hk (by omega) hR step
    refine And.intro (fun _ => ?_) (fun _ => ?_)
    · exact C_reset rule hk (by omega) hR step
    exact step n o5 o6 h (by omega) hR
end
section
-- ===== PART A: goes FIRST, ahead of the names: the tables' words, and 'selects' of the private methods out of them =====
/-- a private method of a class that the tables say can be made, by its rows of tables_1 -/
def lw_okq (q : MethodName × Nat) : Prop := (q.1.cls ≠ "java/lang/invoke/MethodHandle" ∧ q.1.cls ≠ "java/lang/invoke/VarHandle") ∧ Cond.instantiable q.1.cls q.2 ∈ tables_1 ∧ Cond.privateMethod q.1 ∈ tables_1 ∧ Cond.instanceMethod q.1 ∈ tables_1
theorem lw_p0 : lw_okq (⟨"java/lang/Throwable", "fillInStackTrace", "(I)Ljava/lang/Throwable;"⟩, 6) := ⟨⟨by decide +kernel, by decide +kernel⟩, List.mem_of_getElem? (i := 210) (by decide +kernel), List.mem_of_getElem? (i := 208) (by decide +kernel), List.mem_of_getElem? (i := 209) (by decide +kernel)⟩
theorem lw_p1 : lw_okq (⟨"DotVault", "writeData", "(II)V"⟩, 9) := ⟨⟨by decide +kernel, by decide +kernel⟩, List.mem_of_getElem? (i := 18) (by decide +kernel), List.mem_of_getElem? (i := 264) (by decide +kernel), List.mem_of_getElem? (i := 265) (by decide +kernel)⟩
theorem lw_p2 : lw_okq (⟨"DotVault", "documentSymbol", "(II)I"⟩, 9) := ⟨⟨by decide +kernel, by decide +kernel⟩, List.mem_of_getElem? (i := 18) (by decide +kernel), List.mem_of_getElem? (i := 268) (by decide +kernel), List.mem_of_getElem? (i := 269) (by decide +kernel)⟩
theorem lw_p3 : lw_okq (⟨"DotVault$Column", "plainSum", "(I)I"⟩, 1) := ⟨⟨by decide +kernel, by decide +kernel⟩, List.mem_of_getElem? (i := 42) (by decide +kernel), List.mem_of_getElem? (i := 280) (by decide +kernel), List.mem_of_getElem? (i := 281) (by decide +kernel)⟩
theorem lw_p4 : lw_okq (⟨"DotVault$Column", "weightedSum", "(I)I"⟩, 1) := ⟨⟨by decide +kernel, by decide +kernel⟩, List.mem_of_getElem? (i := 42) (by decide +kernel), List.mem_of_getElem? (i := 284) (by decide +kernel), List.mem_of_getElem? (i := 285) (by decide +kernel)⟩
theorem lw_p5 : lw_okq (⟨"DotVault", "drawSheet", "(LDotVault$Sheet;)V"⟩, 9) := ⟨⟨by decide +kernel, by decide +kernel⟩, List.mem_of_getElem? (i := 18) (by decide +kernel), List.mem_of_getElem? (i := 302) (by decide +kernel), List.mem_of_getElem? (i := 303) (by decide +kernel)⟩
theorem lw_p6 : lw_okq (⟨"DotVault$Sheet", "drawFrameDot", "(II)V"⟩, 1) := ⟨⟨by decide +kernel, by decide +kernel⟩, List.mem_of_getElem? (i := 105) (by decide +kernel), List.mem_of_getElem? (i := 314) (by decide +kernel), List.mem_of_getElem? (i := 315) (by decide +kernel)⟩
theorem lw_p7 : lw_okq (⟨"DotVault", "hasDot", "(III)Z"⟩, 9) := ⟨⟨by decide +kernel, by decide +kernel⟩, List.mem_of_getElem? (i := 18) (by decide +kernel), List.mem_of_getElem? (i := 368) (by decide +kernel), List.mem_of_getElem? (i := 369) (by decide +kernel)⟩
theorem lw_p8 : lw_okq (⟨"DotVault", "hasPage", "(I)Z"⟩, 9) := ⟨⟨by decide +kernel, by decide +kernel⟩, List.mem_of_getElem? (i := 18) (by decide +kernel), List.mem_of_getElem? (i := 372) (by decide +kernel), List.mem_of_getElem? (i := 373) (by decide +kernel)⟩
theorem lw_p9 : lw_okq (⟨"DotVault$Sheet", "frameFault", "(III)I"⟩, 1) := ⟨⟨by decide +kernel, by decide +kernel⟩, List.mem_of_getElem? (i := 105) (by decide +kernel), List.mem_of_getElem? (i := 418) (by decide +kernel), List.mem_of_getElem? (i := 419) (by decide +kernel)⟩
theorem lw_p10 : lw_okq (⟨"DotVault$Sheet", "isBlackTurned", "(III)Z"⟩, 1) := ⟨⟨by decide +kernel, by decide +kernel⟩, List.mem_of_getElem? (i := 105) (by decide +kernel), List.mem_of_getElem? (i := 422) (by decide +kernel), List.mem_of_getElem? (i := 423) (by decide +kernel)⟩
theorem lw_p11 : lw_okq (⟨"DotVault$Scan", "forgetErrors", "()V"⟩, 3) := ⟨⟨by decide +kernel, by decide +kernel⟩, List.mem_of_getElem? (i := 52) (by decide +kernel), List.mem_of_getElem? (i := 426) (by decide +kernel), List.mem_of_getElem? (i := 427) (by decide +kernel)⟩
theorem lw_p12 : lw_okq (⟨"DotVault$Scan", "readRows", "(LDotVault$Sheet;I)Z"⟩, 3) := ⟨⟨by decide +kernel, by decide +kernel⟩, List.mem_of_getElem? (i := 52) (by decide +kernel), List.mem_of_getElem? (i := 430) (by decide +kernel), List.mem_of_getElem? (i := 431) (by decide +kernel)⟩
theorem lw_p13 : lw_okq (⟨"DotVault$Row", "findSums", "()V"⟩, 2) := ⟨⟨by decide +kernel, by decide +kernel⟩, List.mem_of_getElem? (i := 28) (by decide +kernel), List.mem_of_getElem? (i := 446) (by decide +kernel), List.mem_of_getElem? (i := 447) (by decide +kernel)⟩
theorem lw_p14 : lw_okq (⟨"DotVault$Row", "isWord", "()Z"⟩, 2) := ⟨⟨by decide +kernel, by decide +kernel⟩, List.mem_of_getElem? (i := 28) (by decide +kernel), List.mem_of_getElem? (i := 451) (by decide +kernel), List.mem_of_getElem? (i := 452) (by decide +kernel)⟩
theorem lw_p15 : lw_okq (⟨"DotVault$Row", "correctOne", "()Z"⟩, 2) := ⟨⟨by decide +kernel, by decide +kernel⟩, List.mem_of_getElem? (i := 28) (by decide +kernel), List.mem_of_getElem? (i := 455) (by decide +kernel), List.mem_of_getElem? (i := 456) (by decide +kernel)⟩
def lw_privs_1 : List (MethodName × Nat) := [(⟨"java/lang/Throwable", "fillInStackTrace", "(I)Ljava/lang/Throwable;"⟩, 6), (⟨"DotVault", "writeData", "(II)V"⟩, 9), (⟨"DotVault", "documentSymbol", "(II)I"⟩, 9), (⟨"DotVault$Column", "plainSum", "(I)I"⟩, 1), (⟨"DotVault$Column", "weightedSum", "(I)I"⟩, 1), (⟨"DotVault", "drawSheet", "(LDotVault$Sheet;)V"⟩, 9), (⟨"DotVault$Sheet", "drawFrameDot", "(II)V"⟩, 1), (⟨"DotVault", "hasDot", "(III)Z"⟩, 9), (⟨"DotVault", "hasPage", "(I)Z"⟩, 9), (⟨"DotVault$Sheet", "frameFault", "(III)I"⟩, 1), (⟨"DotVault$Sheet", "isBlackTurned", "(III)Z"⟩, 1), (⟨"DotVault$Scan", "forgetErrors", "()V"⟩, 3), (⟨"DotVault$Scan", "readRows", "(LDotVault$Sheet;I)Z"⟩, 3), (⟨"DotVault$Row", "findSums", "()V"⟩, 2), (⟨"DotVault$Row", "isWord", "()Z"⟩, 2), (⟨"DotVault$Row", "correctOne", "()Z"⟩, 2)]
theorem lw_r1 : ∀ q ∈ lw_privs_1, lw_okq q := List.forall_mem_cons.mpr ⟨lw_p0, List.forall_mem_cons.mpr ⟨lw_p1, List.forall_mem_cons.mpr ⟨lw_p2, List.forall_mem_cons.mpr ⟨lw_p3, List.forall_mem_cons.mpr ⟨lw_p4, List.forall_mem_cons.mpr ⟨lw_p5, List.forall_mem_cons.mpr ⟨lw_p6, List.forall_mem_cons.mpr ⟨lw_p7, List.forall_mem_cons.mpr ⟨lw_p8, List.forall_mem_cons.mpr ⟨lw_p9, List.forall_mem_cons.mpr ⟨lw_p10, List.forall_mem_cons.mpr ⟨lw_p11, List.forall_mem_cons.mpr ⟨lw_p12, List.forall_mem_cons.mpr ⟨lw_p13, List.forall_mem_cons.mpr ⟨lw_p14, List.forall_mem_cons.mpr ⟨lw_p15, fun _ h => absurd h List.not_mem_nil⟩⟩⟩⟩⟩⟩⟩⟩⟩⟩⟩⟩⟩⟩⟩⟩
theorem lw_p16 : lw_okq (⟨"DotVault$Row", "areSumsOf", "(IIII)Z"⟩, 2) := ⟨⟨by decide +kernel, by decide +kernel⟩, List.mem_of_getElem? (i := 28) (by decide +kernel), List.mem_of_getElem? (i := 459) (by decide +kernel), List.mem_of_getElem? (i := 460) (by decide +kernel)⟩
theorem lw_p17 : lw_okq (⟨"DotVault$Row", "mend", "(II)V"⟩, 2) := ⟨⟨by decide +kernel, by decide +kernel⟩, List.mem_of_getElem? (i := 28) (by decide +kernel), List.mem_of_getElem? (i := 463) (by decide +kernel), List.mem_of_getElem? (i := 464) (by decide +kernel)⟩
theorem lw_p18 : lw_okq (⟨"DotVault$Row", "correctTwo", "()Z"⟩, 2) := ⟨⟨by decide +kernel, by decide +kernel⟩, List.mem_of_getElem? (i := 28) (by decide +kernel), List.mem_of_getElem? (i := 470) (by decide +kernel), List.mem_of_getElem? (i := 471) (by decide +kernel)⟩
theorem lw_p19 : lw_okq (⟨"DotVault$Scan", "tellsPage", "()Z"⟩, 3) := ⟨⟨by decide +kernel, by decide +kernel⟩, List.mem_of_getElem? (i := 52) (by decide +kernel), List.mem_of_getElem? (i := 483) (by decide +kernel), List.mem_of_getElem? (i := 484) (by decide +kernel)⟩
theorem lw_p20 : lw_okq (⟨"DotVault$Reader", "store", "(LDotVault$Scan;)V"⟩, 8) := ⟨⟨by decide +kernel, by decide +kernel⟩, List.mem_of_getElem? (i := 70) (by decide +kernel), List.mem_of_getElem? (i := 506) (by decide +kernel), List.mem_of_getElem? (i := 507) (by decide +kernel)⟩
theorem lw_p21 : lw_okq (⟨"DotVault$Reader", "nextLost", "(I)I"⟩, 8) := ⟨⟨by decide +kernel, by decide +kernel⟩, List.mem_of_getElem? (i := 70) (by decide +kernel), List.mem_of_getElem? (i := 543) (by decide +kernel), List.mem_of_getElem? (i := 544) (by decide +kernel)⟩
theorem lw_p22 : lw_okq (⟨"DotVault$Reader", "fillColumn", "(I)V"⟩, 8) := ⟨⟨by decide +kernel, by decide +kernel⟩, List.mem_of_getElem? (i := 70) (by decide +kernel), List.mem_of_getElem? (i := 547) (by decide +kernel), List.mem_of_getElem? (i := 548) (by decide +kernel)⟩
theorem lw_p23 : lw_okq (⟨"DotVault$Reader", "restoreLost", "(II)V"⟩, 8) := ⟨⟨by decide +kernel, by decide +kernel⟩, List.mem_of_getElem? (i := 70) (by decide +kernel), List.mem_of_getElem? (i := 552) (by decide +kernel), List.mem_of_getElem? (i := 553) (by decide +kernel)⟩
theorem lw_p24 : lw_okq (⟨"DotVault$Reader", "storeSymbols", "(I)V"⟩, 8) := ⟨⟨by decide +kernel, by decide +kernel⟩, List.mem_of_getElem? (i := 70) (by decide +kernel), List.mem_of_getElem? (i := 570) (by decide +kernel), List.mem_of_getElem? (i := 571) (by decide +kernel)⟩
theorem lw_p25 : lw_okq (⟨"DotVaultModel", "product", "(II)I"⟩, 19) := ⟨⟨by decide +kernel, by decide +kernel⟩, List.mem_of_getElem? (i := 607) (by decide +kernel), List.mem_of_getElem? (i := 613) (by decide +kernel), List.mem_of_getElem? (i := 614) (by decide +kernel)⟩
theorem lw_p26 : lw_okq (⟨"DotVaultModel", "printPage", "(II)V"⟩, 19) := ⟨⟨by decide +kernel, by decide +kernel⟩, List.mem_of_getElem? (i := 607) (by decide +kernel), List.mem_of_getElem? (i := 691) (by decide +kernel), List.mem_of_getElem? (i := 692) (by decide +kernel)⟩
theorem lw_p27 : lw_okq (⟨"DotVaultModel", "frame", "(II)Z"⟩, 19) := ⟨⟨by decide +kernel, by decide +kernel⟩, List.mem_of_getElem? (i := 607) (by decide +kernel), List.mem_of_getElem? (i := 695) (by decide +kernel), List.mem_of_getElem? (i := 696) (by decide +kernel)⟩
theorem lw_p28 : lw_okq (⟨"DotVaultModel", "dataOf", "(III)I"⟩, 19) := ⟨⟨by decide +kernel, by decide +kernel⟩, List.mem_of_getElem? (i := 607) (by decide +kernel), List.mem_of_getElem? (i := 699) (by decide +kernel), List.mem_of_getElem? (i := 700) (by decide +kernel)⟩
theorem lw_p29 : lw_okq (⟨"DotVaultModel", "payload", "(III)I"⟩, 19) := ⟨⟨by decide +kernel, by decide +kernel⟩, List.mem_of_getElem? (i := 607) (by decide +kernel), List.mem_of_getElem? (i := 703) (by decide +kernel), List.mem_of_getElem? (i := 704) (by decide +kernel)⟩
theorem lw_p30 : lw_okq (⟨"DotVaultModel", "symbolOf", "(II)I"⟩, 19) := ⟨⟨by decide +kernel, by decide +kernel⟩, List.mem_of_getElem? (i := 607) (by decide +kernel), List.mem_of_getElem? (i := 707) (by decide +kernel), List.mem_of_getElem? (i := 708) (by decide +kernel)⟩
theorem lw_p31 : lw_okq (⟨"DotVaultModel", "of", "(I)I"⟩, 19) := ⟨⟨by decide +kernel, by decide +kernel⟩, List.mem_of_getElem? (i := 607) (by decide +kernel), List.mem_of_getElem? (i := 711) (by decide +kernel), List.mem_of_getElem? (i := 712) (by decide +kernel)⟩
def lw_privs_2 : List (MethodName × Nat) := [(⟨"DotVault$Row", "areSumsOf", "(IIII)Z"⟩, 2), (⟨"DotVault$Row", "mend", "(II)V"⟩, 2), (⟨"DotVault$Row", "correctTwo", "()Z"⟩, 2), (⟨"DotVault$Scan", "tellsPage", "()Z"⟩, 3), (⟨"DotVault$Reader", "store", "(LDotVault$Scan;)V"⟩, 8), (⟨"DotVault$Reader", "nextLost", "(I)I"⟩, 8), (⟨"DotVault$Reader", "fillColumn", "(I)V"⟩, 8), (⟨"DotVault$Reader", "restoreLost", "(II)V"⟩, 8), (⟨"DotVault$Reader", "storeSymbols", "(I)V"⟩, 8), (⟨"DotVaultModel", "product", "(II)I"⟩, 19), (⟨"DotVaultModel", "printPage", "(II)V"⟩, 19), (⟨"DotVaultModel", "frame", "(II)Z"⟩, 19), (⟨"DotVaultModel", "dataOf", "(III)I"⟩, 19), (⟨"DotVaultModel", "payload", "(III)I"⟩, 19), (⟨"DotVaultModel", "symbolOf", "(II)I"⟩, 19), (⟨"DotVaultModel", "of", "(I)I"⟩, 19)]
theorem lw_r2 : ∀ q ∈ lw_privs_2, lw_okq q := List.forall_mem_cons.mpr ⟨lw_p16, List.forall_mem_cons.mpr ⟨lw_p17, List.forall_mem_cons.mpr ⟨lw_p18, List.forall_mem_cons.mpr ⟨lw_p19, List.forall_mem_cons.mpr ⟨lw_p20, List.forall_mem_cons.mpr ⟨lw_p21, List.forall_mem_cons.mpr ⟨lw_p22, List.forall_mem_cons.mpr ⟨lw_p23, List.forall_mem_cons.mpr ⟨lw_p24, List.forall_mem_cons.mpr ⟨lw_p25, List.forall_mem_cons.mpr ⟨lw_p26, List.forall_mem_cons.mpr ⟨lw_p27, List.forall_mem_cons.mpr ⟨lw_p28, List.forall_mem_cons.mpr ⟨lw_p29, List.forall_mem_cons.mpr ⟨lw_p30, List.forall_mem_cons.mpr ⟨lw_p31, fun _ h => absurd h List.not_mem_nil⟩⟩⟩⟩⟩⟩⟩⟩⟩⟩⟩⟩⟩⟩⟩⟩
theorem lw_p32 : lw_okq (⟨"DotVaultModel", "check", "()V"⟩, 19) := ⟨⟨by decide +kernel, by decide +kernel⟩, List.mem_of_getElem? (i := 607) (by decide +kernel), List.mem_of_getElem? (i := 715) (by decide +kernel), List.mem_of_getElem? (i := 716) (by decide +kernel)⟩
theorem lw_p33 : lw_okq (⟨"DotVaultModel", "noDot", "(III)Z"⟩, 19) := ⟨⟨by decide +kernel, by decide +kernel⟩, List.mem_of_getElem? (i := 607) (by decide +kernel), List.mem_of_getElem? (i := 723) (by decide +kernel), List.mem_of_getElem? (i := 724) (by decide +kernel)⟩
theorem lw_p34 : lw_okq (⟨"DotVaultModel", "turn", "()V"⟩, 19) := ⟨⟨by decide +kernel, by decide +kernel⟩, List.mem_of_getElem? (i := 607) (by decide +kernel), List.mem_of_getElem? (i := 739) (by decide +kernel), List.mem_of_getElem? (i := 740) (by decide +kernel)⟩
theorem lw_p35 : lw_okq (⟨"DotVaultModel", "frameErrors", "()I"⟩, 19) := ⟨⟨by decide +kernel, by decide +kernel⟩, List.mem_of_getElem? (i := 607) (by decide +kernel), List.mem_of_getElem? (i := 743) (by decide +kernel), List.mem_of_getElem? (i := 744) (by decide +kernel)⟩
theorem lw_p36 : lw_okq (⟨"DotVaultModel", "readRows", "()Z"⟩, 19) := ⟨⟨by decide +kernel, by decide +kernel⟩, List.mem_of_getElem? (i := 607) (by decide +kernel), List.mem_of_getElem? (i := 747) (by decide +kernel), List.mem_of_getElem? (i := 748) (by decide +kernel)⟩
theorem lw_p37 : lw_okq (⟨"DotVaultModel", "bit", "(II)I"⟩, 19) := ⟨⟨by decide +kernel, by decide +kernel⟩, List.mem_of_getElem? (i := 607) (by decide +kernel), List.mem_of_getElem? (i := 751) (by decide +kernel), List.mem_of_getElem? (i := 752) (by decide +kernel)⟩
theorem lw_p38 : lw_okq (⟨"DotVaultModel", "correct", "()I"⟩, 19) := ⟨⟨by decide +kernel, by decide +kernel⟩, List.mem_of_getElem? (i := 607) (by decide +kernel), List.mem_of_getElem? (i := 755) (by decide +kernel), List.mem_of_getElem? (i := 756) (by decide +kernel)⟩
theorem lw_p39 : lw_okq (⟨"DotVaultModel", "isWord", "()Z"⟩, 19) := ⟨⟨by decide +kernel, by decide +kernel⟩, List.mem_of_getElem? (i := 607) (by decide +kernel), List.mem_of_getElem? (i := 759) (by decide +kernel), List.mem_of_getElem? (i := 760) (by decide +kernel)⟩
theorem lw_p40 : lw_okq (⟨"DotVaultModel", "sumAt", "(I)I"⟩, 19) := ⟨⟨by decide +kernel, by decide +kernel⟩, List.mem_of_getElem? (i := 607) (by decide +kernel), List.mem_of_getElem? (i := 763) (by decide +kernel), List.mem_of_getElem? (i := 764) (by decide +kernel)⟩
theorem lw_p41 : lw_okq (⟨"DotVaultModel", "quotient", "(II)I"⟩, 19) := ⟨⟨by decide +kernel, by decide +kernel⟩, List.mem_of_getElem? (i := 607) (by decide +kernel), List.mem_of_getElem? (i := 767) (by decide +kernel), List.mem_of_getElem? (i := 768) (by decide +kernel)⟩
theorem lw_p42 : lw_okq (⟨"DotVaultModel", "fits", "(IIII)Z"⟩, 19) := ⟨⟨by decide +kernel, by decide +kernel⟩, List.mem_of_getElem? (i := 607) (by decide +kernel), List.mem_of_getElem? (i := 771) (by decide +kernel), List.mem_of_getElem? (i := 772) (by decide +kernel)⟩
theorem lw_p43 : lw_okq (⟨"DotVaultModel", "keep", "()I"⟩, 19) := ⟨⟨by decide +kernel, by decide +kernel⟩, List.mem_of_getElem? (i := 607) (by decide +kernel), List.mem_of_getElem? (i := 775) (by decide +kernel), List.mem_of_getElem? (i := 776) (by decide +kernel)⟩
theorem lw_p44 : lw_okq (⟨"DotVaultModel", "isRightOne", "(III)Z"⟩, 19) := ⟨⟨by decide +kernel, by decide +kernel⟩, List.mem_of_getElem? (i := 607) (by decide +kernel), List.mem_of_getElem? (i := 791) (by decide +kernel), List.mem_of_getElem? (i := 792) (by decide +kernel)⟩
theorem lw_p45 : lw_okq (⟨"DotVaultModel", "symbolAt", "(IIIII)I"⟩, 19) := ⟨⟨by decide +kernel, by decide +kernel⟩, List.mem_of_getElem? (i := 607) (by decide +kernel), List.mem_of_getElem? (i := 795) (by decide +kernel), List.mem_of_getElem? (i := 796) (by decide +kernel)⟩
theorem lw_p46 : lw_okq (⟨"DotVaultModel", "isRight", "(IIII)Z"⟩, 19) := ⟨⟨by decide +kernel, by decide +kernel⟩, List.mem_of_getElem? (i := 607) (by decide +kernel), List.mem_of_getElem? (i := 799) (by decide +kernel), List.mem_of_getElem? (i := 800) (by decide +kernel)⟩
def lw_privs_3 : List (MethodName × Nat) := [(⟨"DotVaultModel", "check", "()V"⟩, 19), (⟨"DotVaultModel", "noDot", "(III)Z"⟩, 19), (⟨"DotVaultModel", "turn", "()V"⟩, 19), (⟨"DotVaultModel", "frameErrors", "()I"⟩, 19), (⟨"DotVaultModel", "readRows", "()Z"⟩, 19), (⟨"DotVaultModel", "bit", "(II)I"⟩, 19), (⟨"DotVaultModel", "correct", "()I"⟩, 19), (⟨"DotVaultModel", "isWord", "()Z"⟩, 19), (⟨"DotVaultModel", "sumAt", "(I)I"⟩, 19), (⟨"DotVaultModel", "quotient", "(II)I"⟩, 19), (⟨"DotVaultModel", "fits", "(IIII)Z"⟩, 19), (⟨"DotVaultModel", "keep", "()I"⟩, 19), (⟨"DotVaultModel", "isRightOne", "(III)Z"⟩, 19), (⟨"DotVaultModel", "symbolAt", "(IIIII)I"⟩, 19), (⟨"DotVaultModel", "isRight", "(IIII)Z"⟩, 19)]
theorem lw_r3 : ∀ q ∈ lw_privs_3, lw_okq q := List.forall_mem_cons.mpr ⟨lw_p32, List.forall_mem_cons.mpr ⟨lw_p33, List.forall_mem_cons.mpr ⟨lw_p34, List.forall_mem_cons.mpr ⟨lw_p35, List.forall_mem_cons.mpr ⟨lw_p36, List.forall_mem_cons.mpr ⟨lw_p37, List.forall_mem_cons.mpr ⟨lw_p38, List.forall_mem_cons.mpr ⟨lw_p39, List.forall_mem_cons.mpr ⟨lw_p40, List.forall_mem_cons.mpr ⟨lw_p41, List.forall_mem_cons.mpr ⟨lw_p42, List.forall_mem_cons.mpr ⟨lw_p43, List.forall_mem_cons.mpr ⟨lw_p44, List.forall_mem_cons.mpr ⟨lw_p45, List.forall_mem_cons.mpr ⟨lw_p46, fun _ h => absurd h List.not_mem_nil⟩⟩⟩⟩⟩⟩⟩⟩⟩⟩⟩⟩⟩⟩⟩
def lw_privs : List (MethodName × Nat) := lw_privs_1 ++ (lw_privs_2 ++ (lw_privs_3))
def lw_tbl : List Cond := k2_sels lw_privs ++ tables_1
theorem lw_privs_ok : ∀ q ∈ lw_privs, lw_okq q := by
  show ∀ q ∈ lw_privs_1 ++ (lw_privs_2 ++ (lw_privs_3)), lw_okq q
  exact List.forall_mem_append.mpr ⟨lw_r1, List.forall_mem_append.mpr ⟨lw_r2, lw_r3⟩⟩
end
section
/-! The words of the machine among the claim's. -/
theorem jz_xw : ∀ w ∈ jx_xw, w ∈ lw_tbl := by decide +kernel
theorem jz_lw : ∀ w ∈ jx_lw, w ∈ lw_tbl := by decide +kernel
theorem jz_lz : ∀ w ∈ jl_lz, w ∈ lw_tbl := by decide +kernel
end
section
/-! The machine's own words among the claim's, by their places. -/
theorem jz_nil {P : Nat → Prop} : ∀ κ, κ < 0 → P κ := fun _ h => absurd h (Nat.not_lt_zero _)
set_option maxRecDepth 100000 in
theorem jz_c0 : jx_cod 0 ∈ lw_tbl := List.mem_of_getElem? (i := 317) rfl
set_option maxRecDepth 100000 in
theorem jz_c1 : jx_cod 1 ∈ lw_tbl := List.mem_of_getElem? (i := 421) rfl
set_option maxRecDepth 100000 in
theorem jz_c2 : jx_cod 2 ∈ lw_tbl := List.mem_of_getElem? (i := 217) rfl
set_option maxRecDepth 100000 in
theorem jz_c3 : jx_cod 3 ∈ lw_tbl := List.mem_of_getElem? (i := 192) rfl
set_option maxRecDepth 100000 in
theorem jz_c4 : jx_cod 4 ∈ lw_tbl := List.mem_of_getElem? (i := 403) rfl
set_option maxRecDepth 100000 in
theorem jz_c5 : jx_cod 5 ∈ lw_tbl := List.mem_of_getElem? (i := 406) rfl
set_option maxRecDepth 100000 in
theorem jz_c6 : jx_cod 6 ∈ lw_tbl := List.mem_of_getElem? (i := 378) rfl
set_option maxRecDepth 100000 in
theorem jz_c7 : jx_cod 7 ∈ lw_tbl := List.mem_of_getElem? (i := 374) rfl
set_option maxRecDepth 100000 in
theorem jz_c8 : jx_cod 8 ∈ lw_tbl := List.mem_of_getElem? (i := 366) rfl
set_option maxRecDepth 100000 in
theorem jz_c9 : jx_cod 9 ∈ lw_tbl := List.mem_of_getElem? (i := 355) rfl
set_option maxRecDepth 100000 in
theorem jz_c10 : jx_cod 10 ∈ lw_tbl := List.mem_of_getElem? (i := 500) rfl
set_option maxRecDepth 100000 in
theorem jz_c11 : jx_cod 11 ∈ lw_tbl := List.mem_of_getElem? (i := 347) rfl
set_option maxRecDepth 100000 in
theorem jz_c12 : jx_cod 12 ∈ lw_tbl := List.mem_of_getElem? (i := 329) rfl
set_option maxRecDepth 100000 in
theorem jz_c13 : jx_cod 13 ∈ lw_tbl := List.mem_of_getElem? (i := 321) rfl
set_option maxRecDepth 100000 in
theorem jz_c14 : jx_cod 14 ∈ lw_tbl := List.mem_of_getElem? (i := 572) rfl
set_option maxRecDepth 100000 in
theorem jz_c15 : jx_cod 15 ∈ lw_tbl := List.mem_of_getElem? (i := 475) rfl
set_option maxRecDepth 100000 in
theorem jz_c16 : jx_cod 16 ∈ lw_tbl := List.mem_of_getElem? (i := 544) rfl
set_option maxRecDepth 100000 in
theorem jz_c17 : jx_cod 17 ∈ lw_tbl := List.mem_of_getElem? (i := 536) rfl
set_option maxRecDepth 100000 in
theorem jz_c18 : jx_cod 18 ∈ lw_tbl := List.mem_of_getElem? (i := 540) rfl
set_option maxRecDepth 100000 in
theorem jz_c19 : jx_cod 19 ∈ lw_tbl := List.mem_of_getElem? (i := 559) rfl
set_option maxRecDepth 100000 in
theorem jz_c20 : jx_cod 20 ∈ lw_tbl := List.mem_of_getElem? (i := 208) rfl
set_option maxRecDepth 100000 in
theorem jz_c21 : jx_cod 21 ∈ lw_tbl := List.mem_of_getElem? (i := 583) rfl
set_option maxRecDepth 100000 in
theorem jz_c22 : jx_cod 22 ∈ lw_tbl := List.mem_of_getElem? (i := 200) rfl
set_option maxRecDepth 100000 in
theorem jz_c23 : jx_cod 23 ∈ lw_tbl := List.mem_of_getElem? (i := 592) rfl
set_option maxRecDepth 100000 in
theorem jz_c24 : jx_cod 24 ∈ lw_tbl := List.mem_of_getElem? (i := 652) rfl
set_option maxRecDepth 100000 in
theorem jz_c25 : jx_cod 25 ∈ lw_tbl := List.mem_of_getElem? (i := 632) rfl
set_option maxRecDepth 100000 in
theorem jz_c26 : jx_cod 26 ∈ lw_tbl := List.mem_of_getElem? (i := 800) rfl
set_option maxRecDepth 100000 in
theorem jz_c27 : jx_cod 27 ∈ lw_tbl := List.mem_of_getElem? (i := 828) rfl
set_option maxRecDepth 100000 in
theorem jz_c28 : jx_cod 28 ∈ lw_tbl := List.mem_of_getElem? (i := 744) rfl
set_option maxRecDepth 100000 in
theorem jz_c29 : jx_cod 29 ∈ lw_tbl := List.mem_of_getElem? (i := 824) rfl
set_option maxRecDepth 100000 in
theorem jz_c30 : jx_cod 30 ∈ lw_tbl := List.mem_of_getElem? (i := 728) rfl
set_option maxRecDepth 100000 in
theorem jz_c31 : jx_cod 31 ∈ lw_tbl := List.mem_of_getElem? (i := 832) rfl
set_option maxRecDepth 100000 in
theorem jz_c32 : jx_cod 32 ∈ lw_tbl := List.mem_of_getElem? (i := 772) rfl
set_option maxRecDepth 100000 in
theorem jz_c33 : jx_cod 33 ∈ lw_tbl := List.mem_of_getElem? (i := 760) rfl
set_option maxRecDepth 100000 in
theorem jz_c34 : jx_cod 34 ∈ lw_tbl := List.mem_of_getElem? (i := 852) rfl
set_option maxRecDepth 100000 in
theorem jz_c35 : jx_cod 35 ∈ lw_tbl := List.mem_of_getElem? (i := 662) rfl
set_option maxRecDepth 100000 in
theorem jz_c36 : jx_cod 36 ∈ lw_tbl := List.mem_of_getElem? (i := 856) rfl
set_option maxRecDepth 100000 in
theorem jz_c37 : jx_cod 37 ∈ lw_tbl := List.mem_of_getElem? (i := 844) rfl
set_option maxRecDepth 100000 in
theorem jz_c38 : jx_cod 38 ∈ lw_tbl := List.mem_of_getElem? (i := 756) rfl
set_option maxRecDepth 100000 in
theorem jz_c39 : jx_cod 39 ∈ lw_tbl := List.mem_of_getElem? (i := 724) rfl
set_option maxRecDepth 100000 in
theorem jz_c40 : jx_cod 40 ∈ lw_tbl := List.mem_of_getElem? (i := 788) rfl
set_option maxRecDepth 100000 in
theorem jz_c41 : jx_cod 41 ∈ lw_tbl := List.mem_of_getElem? (i := 732) rfl
set_option maxRecDepth 100000 in
theorem jz_c42 : jx_cod 42 ∈ lw_tbl := List.mem_of_getElem? (i := 336) rfl
set_option maxRecDepth 100000 in
theorem jz_c43 : jx_cod 43 ∈ lw_tbl := List.mem_of_getElem? (i := 341) rfl
set_option maxRecDepth 100000 in
theorem jz_c44 : jx_cod 44 ∈ lw_tbl := List.mem_of_getElem? (i := 515) rfl
set_option maxRecDepth 100000 in
theorem jz_c45 : jx_cod 45 ∈ lw_tbl := List.mem_of_getElem? (i := 567) rfl
set_option maxRecDepth 100000 in
theorem jz_c46 : jx_cod 46 ∈ lw_tbl := List.mem_of_getElem? (i := 417) rfl
set_option maxRecDepth 100000 in
theorem jz_c47 : jx_cod 47 ∈ lw_tbl := List.mem_of_getElem? (i := 196) rfl
set_option maxRecDepth 100000 in
theorem jz_c48 : jx_cod 48 ∈ lw_tbl := List.mem_of_getElem? (i := 628) rfl
set_option maxRecDepth 100000 in
theorem jz_c49 : jx_cod 49 ∈ lw_tbl := List.mem_of_getElem? (i := 204) rfl
set_option maxRecDepth 100000 in
theorem jz_c50 : jx_cod 50 ∈ lw_tbl := List.mem_of_getElem? (i := 471) rfl
set_option maxRecDepth 100000 in
theorem jz_c51 : jx_cod 51 ∈ lw_tbl := List.mem_of_getElem? (i := 370) rfl
set_option maxRecDepth 100000 in
theorem jz_c52 : jx_cod 52 ∈ lw_tbl := List.mem_of_getElem? (i := 508) rfl
set_option maxRecDepth 100000 in
theorem jz_c53 : jx_cod 53 ∈ lw_tbl := List.mem_of_getElem? (i := 389) rfl
set_option maxRecDepth 100000 in
theorem jz_c54 : jx_cod 54 ∈ lw_tbl := List.mem_of_getElem? (i := 495) rfl
set_option maxRecDepth 100000 in
theorem jz_c55 : jx_cod 55 ∈ lw_tbl := List.mem_of_getElem? (i := 528) rfl
set_option maxRecDepth 100000 in
theorem jz_c56 : jx_cod 56 ∈ lw_tbl := List.mem_of_getElem? (i := 512) rfl
set_option maxRecDepth 100000 in
theorem jz_c57 : jx_cod 57 ∈ lw_tbl := List.mem_of_getElem? (i := 382) rfl
set_option maxRecDepth 100000 in
theorem jz_c58 : jx_cod 58 ∈ lw_tbl := List.mem_of_getElem? (i := 610) rfl
set_option maxRecDepth 100000 in
theorem jz_c59 : jx_cod 59 ∈ lw_tbl := List.mem_of_getElem? (i := 333) rfl
set_option maxRecDepth 100000 in
theorem jz_c60 : jx_cod 60 ∈ lw_tbl := List.mem_of_getElem? (i := 532) rfl
set_option maxRecDepth 100000 in
theorem jz_c61 : jx_cod 61 ∈ lw_tbl := List.mem_of_getElem? (i := 596) rfl
set_option maxRecDepth 100000 in
theorem jz_c62 : jx_cod 62 ∈ lw_tbl := List.mem_of_getElem? (i := 555) rfl
set_option maxRecDepth 100000 in
theorem jz_c63 : jx_cod 63 ∈ lw_tbl := List.mem_of_getElem? (i := 619) rfl
set_option maxRecDepth 100000 in
theorem jz_c64 : jx_cod 64 ∈ lw_tbl := List.mem_of_getElem? (i := 776) rfl
set_option maxRecDepth 100000 in
theorem jz_c65 : jx_cod 65 ∈ lw_tbl := List.mem_of_getElem? (i := 764) rfl
set_option maxRecDepth 100000 in
theorem jz_c66 : jx_cod 66 ∈ lw_tbl := List.mem_of_getElem? (i := 768) rfl
set_option maxRecDepth 100000 in
theorem jz_c67 : jx_cod 67 ∈ lw_tbl := List.mem_of_getElem? (i := 820) rfl
set_option maxRecDepth 100000 in
theorem jz_c68 : jx_cod 68 ∈ lw_tbl := List.mem_of_getElem? (i := 780) rfl
set_option maxRecDepth 100000 in
theorem jz_c69 : jx_cod 69 ∈ lw_tbl := List.mem_of_getElem? (i := 792) rfl
set_option maxRecDepth 100000 in
theorem jz_c70 : jx_cod 70 ∈ lw_tbl := List.mem_of_getElem? (i := 848) rfl
set_option maxRecDepth 100000 in
theorem jz_c71 : jx_cod 71 ∈ lw_tbl := List.mem_of_getElem? (i := 840) rfl
set_option maxRecDepth 100000 in
theorem jz_c72 : jx_cod 72 ∈ lw_tbl := List.mem_of_getElem? (i := 752) rfl
set_option maxRecDepth 100000 in
theorem jz_c73 : jx_cod 73 ∈ lw_tbl := List.mem_of_getElem? (i := 816) rfl
set_option maxRecDepth 100000 in
theorem jz_c74 : jx_cod 74 ∈ lw_tbl := List.mem_of_getElem? (i := 812) rfl
set_option maxRecDepth 100000 in
theorem jz_c75 : jx_cod 75 ∈ lw_tbl := List.mem_of_getElem? (i := 522) rfl
set_option maxRecDepth 100000 in
theorem jz_c76 : jx_cod 76 ∈ lw_tbl := List.mem_of_getElem? (i := 430) rfl
set_option maxRecDepth 100000 in
theorem jz_c77 : jx_cod 77 ∈ lw_tbl := List.mem_of_getElem? (i := 413) rfl
set_option maxRecDepth 100000 in
theorem jz_c78 : jx_cod 78 ∈ lw_tbl := List.mem_of_getElem? (i := 442) rfl
set_option maxRecDepth 100000 in
theorem jz_c79 : jx_cod 79 ∈ lw_tbl := List.mem_of_getElem? (i := 363) rfl
set_option maxRecDepth 100000 in
theorem jz_c80 : jx_cod 80 ∈ lw_tbl := List.mem_of_getElem? (i := 400) rfl
set_option maxRecDepth 100000 in
theorem jz_c81 : jx_cod 81 ∈ lw_tbl := List.mem_of_getElem? (i := 467) rfl
set_option maxRecDepth 100000 in
theorem jz_c82 : jx_cod 82 ∈ lw_tbl := List.mem_of_getElem? (i := 487) rfl
set_option maxRecDepth 100000 in
theorem jz_c83 : jx_cod 83 ∈ lw_tbl := List.mem_of_getElem? (i := 504) rfl
set_option maxRecDepth 100000 in
theorem jz_c84 : jx_cod 84 ∈ lw_tbl := List.mem_of_getElem? (i := 519) rfl
set_option maxRecDepth 100000 in
theorem jz_c85 : jx_cod 85 ∈ lw_tbl := List.mem_of_getElem? (i := 325) rfl
set_option maxRecDepth 100000 in
theorem jz_c86 : jx_cod 86 ∈ lw_tbl := List.mem_of_getElem? (i := 614) rfl
set_option maxRecDepth 100000 in
theorem jz_c87 : jx_cod 87 ∈ lw_tbl := List.mem_of_getElem? (i := 605) rfl
set_option maxRecDepth 100000 in
theorem jz_c88 : jx_cod 88 ∈ lw_tbl := List.mem_of_getElem? (i := 548) rfl
set_option maxRecDepth 100000 in
theorem jz_c89 : jx_cod 89 ∈ lw_tbl := List.mem_of_getElem? (i := 748) rfl
set_option maxRecDepth 100000 in
theorem jz_c90 : jx_cod 90 ∈ lw_tbl := List.mem_of_getElem? (i := 808) rfl
set_option maxRecDepth 100000 in
theorem jz_c91 : jx_cod 91 ∈ lw_tbl := List.mem_of_getElem? (i := 836) rfl
set_option maxRecDepth 100000 in
theorem jz_c92 : jx_cod 92 ∈ lw_tbl := List.mem_of_getElem? (i := 313) rfl
set_option maxRecDepth 100000 in
theorem jz_c93 : jx_cod 93 ∈ lw_tbl := List.mem_of_getElem? (i := 359) rfl
set_option maxRecDepth 100000 in
theorem jz_c94 : jx_cod 94 ∈ lw_tbl := List.mem_of_getElem? (i := 463) rfl
set_option maxRecDepth 100000 in
theorem jz_c95 : jx_cod 95 ∈ lw_tbl := List.mem_of_getElem? (i := 491) rfl
set_option maxRecDepth 100000 in
theorem jz_c96 : jx_cod 96 ∈ lw_tbl := List.mem_of_getElem? (i := 396) rfl
set_option maxRecDepth 100000 in
theorem jz_c97 : jx_cod 97 ∈ lw_tbl := List.mem_of_getElem? (i := 483) rfl
set_option maxRecDepth 100000 in
theorem jz_c98 : jx_cod 98 ∈ lw_tbl := List.mem_of_getElem? (i := 601) rfl
set_option maxRecDepth 100000 in
theorem jz_c99 : jx_cod 99 ∈ lw_tbl := List.mem_of_getElem? (i := 804) rfl
set_option maxRecDepth 100000 in
theorem jz_c100 : jx_cod 100 ∈ lw_tbl := List.mem_of_getElem? (i := 740) rfl
set_option maxRecDepth 100000 in
theorem jz_c101 : jx_cod 101 ∈ lw_tbl := List.mem_of_getElem? (i := 351) rfl
set_option maxRecDepth 100000 in
theorem jz_c102 : jx_cod 102 ∈ lw_tbl := List.mem_of_getElem? (i := 479) rfl
set_option maxRecDepth 100000 in
theorem jz_c103 : jx_cod 103 ∈ lw_tbl := List.mem_of_getElem? (i := 459) rfl
set_option maxRecDepth 100000 in
theorem jz_c104 : jx_cod 104 ∈ lw_tbl := List.mem_of_getElem? (i := 588) rfl
set_option maxRecDepth 100000 in
theorem jz_c105 : jx_cod 105 ∈ lw_tbl := List.mem_of_getElem? (i := 736) rfl
set_option maxRecDepth 100000 in
theorem jz_c106 : jx_cod 106 ∈ lw_tbl := List.mem_of_getElem? (i := 796) rfl
set_option maxRecDepth 100000 in
theorem jz_c107 : jx_cod 107 ∈ lw_tbl := List.mem_of_getElem? (i := 308) rfl
set_option maxRecDepth 100000 in
theorem jz_c108 : jx_cod 108 ∈ lw_tbl := List.mem_of_getElem? (i := 579) rfl
set_option maxRecDepth 100000 in
theorem jz_c109 : jx_cod 109 ∈ lw_tbl := List.mem_of_getElem? (i := 456) rfl
set_option maxRecDepth 100000 in
theorem jz_c110 : jx_cod 110 ∈ lw_tbl := List.mem_of_getElem? (i := 784) rfl
set_option maxRecDepth 100000 in
theorem jz_c111 : jx_cod 111 ∈ lw_tbl := List.mem_of_getElem? (i := 450) rfl
set_option maxRecDepth 100000 in
theorem jz_m0 : ∀ w ∈ jx_mws 0, w ∈ lw_tbl := List.forall_mem_cons.mpr ⟨List.mem_of_getElem? (i := 316) rfl, List.forall_mem_cons.mpr ⟨List.mem_of_getElem? (i := 2) rfl, List.forall_mem_cons.mpr ⟨List.mem_of_getElem? (i := 48) rfl, fun _ h => absurd h List.not_mem_nil⟩⟩⟩
set_option maxRecDepth 100000 in
theorem jz_m1 : ∀ w ∈ jx_mws 1, w ∈ lw_tbl := List.forall_mem_cons.mpr ⟨List.mem_of_getElem? (i := 420) rfl, List.forall_mem_cons.mpr ⟨List.mem_of_getElem? (i := 8) rfl, List.forall_mem_cons.mpr ⟨List.mem_of_getElem? (i := 48) rfl, fun _ h => absurd h List.not_mem_nil⟩⟩⟩
set_option maxRecDepth 100000 in
theorem jz_m2 : ∀ w ∈ jx_mws 2, w ∈ lw_tbl := List.forall_mem_cons.mpr ⟨List.mem_of_getElem? (i := 215) rfl, List.forall_mem_cons.mpr ⟨List.mem_of_getElem? (i := 216) rfl, List.forall_mem_cons.mpr ⟨List.mem_of_getElem? (i := 48) rfl, fun _ h => absurd h List.not_mem_nil⟩⟩⟩
set_option maxRecDepth 100000 in
theorem jz_m3 : ∀ w ∈ jx_mws 3, w ∈ lw_tbl := List.forall_mem_cons.mpr ⟨List.mem_of_getElem? (i := 190) rfl, List.forall_mem_cons.mpr ⟨List.mem_of_getElem? (i := 191) rfl, List.forall_mem_cons.mpr ⟨List.mem_of_getElem? (i := 48) rfl, fun _ h => absurd h List.not_mem_nil⟩⟩⟩
set_option maxRecDepth 100000 in
theorem jz_m4 : ∀ w ∈ jx_mws 4, w ∈ lw_tbl := List.forall_mem_cons.mpr ⟨List.mem_of_getElem? (i := 402) rfl, List.forall_mem_cons.mpr ⟨List.mem_of_getElem? (i := 53) rfl, fun _ h => absurd h List.not_mem_nil⟩⟩
set_option maxRecDepth 100000 in
theorem jz_m5 : ∀ w ∈ jx_mws 5, w ∈ lw_tbl := List.forall_mem_cons.mpr ⟨List.mem_of_getElem? (i := 405) rfl, List.forall_mem_cons.mpr ⟨List.mem_of_getElem? (i := 53) rfl, fun _ h => absurd h List.not_mem_nil⟩⟩
set_option maxRecDepth 100000 in
theorem jz_m6 : ∀ w ∈ jx_mws 6, w ∈ lw_tbl := List.forall_mem_cons.mpr ⟨List.mem_of_getElem? (i := 376) rfl, List.forall_mem_cons.mpr ⟨List.mem_of_getElem? (i := 377) rfl, List.forall_mem_cons.mpr ⟨List.mem_of_getElem? (i := 53) rfl, fun _ h => absurd h List.not_mem_nil⟩⟩⟩
set_option maxRecDepth 100000 in
theorem jz_m7 : ∀ w ∈ jx_mws 7, w ∈ lw_tbl := List.forall_mem_cons.mpr ⟨List.mem_of_getElem? (i := 372) rfl, List.forall_mem_cons.mpr ⟨List.mem_of_getElem? (i := 373) rfl, List.forall_mem_cons.mpr ⟨List.mem_of_getElem? (i := 53) rfl, fun _ h => absurd h List.not_mem_nil⟩⟩⟩
set_option maxRecDepth 100000 in
theorem jz_m8 : ∀ w ∈ jx_mws 8, w ∈ lw_tbl := List.forall_mem_cons.mpr ⟨List.mem_of_getElem? (i := 365) rfl, List.forall_mem_cons.mpr ⟨List.mem_of_getElem? (i := 53) rfl, fun _ h => absurd h List.not_mem_nil⟩⟩
set_option maxRecDepth 100000 in
theorem jz_m9 : ∀ w ∈ jx_mws 9, w ∈ lw_tbl := List.forall_mem_cons.mpr ⟨List.mem_of_getElem? (i := 353) rfl, List.forall_mem_cons.mpr ⟨List.mem_of_getElem? (i := 354) rfl, List.forall_mem_cons.mpr ⟨List.mem_of_getElem? (i := 53) rfl, fun _ h => absurd h List.not_mem_nil⟩⟩⟩
set_option maxRecDepth 100000 in
theorem jz_m10 : ∀ w ∈ jx_mws 10, w ∈ lw_tbl := List.forall_mem_cons.mpr ⟨List.mem_of_getElem? (i := 499) rfl, List.forall_mem_cons.mpr ⟨List.mem_of_getElem? (i := 14) rfl, List.forall_mem_cons.mpr ⟨List.mem_of_getElem? (i := 49) rfl, fun _ h => absurd h List.not_mem_nil⟩⟩⟩
set_option maxRecDepth 100000 in
theorem jz_m11 : ∀ w ∈ jx_mws 11, w ∈ lw_tbl := List.forall_mem_cons.mpr ⟨List.mem_of_getElem? (i := 345) rfl, List.forall_mem_cons.mpr ⟨List.mem_of_getElem? (i := 346) rfl, List.forall_mem_cons.mpr ⟨List.mem_of_getElem? (i := 50) rfl, fun _ h => absurd h List.not_mem_nil⟩⟩⟩
set_option maxRecDepth 100000 in
theorem jz_m12 : ∀ w ∈ jx_mws 12, w ∈ lw_tbl := List.forall_mem_cons.mpr ⟨List.mem_of_getElem? (i := 328) rfl, List.forall_mem_cons.mpr ⟨List.mem_of_getElem? (i := 3) rfl, List.forall_mem_cons.mpr ⟨List.mem_of_getElem? (i := 50) rfl, fun _ h => absurd h List.not_mem_nil⟩⟩⟩
set_option maxRecDepth 100000 in
theorem jz_m13 : ∀ w ∈ jx_mws 13, w ∈ lw_tbl := List.forall_mem_cons.mpr ⟨List.mem_of_getElem? (i := 319) rfl, List.forall_mem_cons.mpr ⟨List.mem_of_getElem? (i := 320) rfl, List.forall_mem_cons.mpr ⟨List.mem_of_getElem? (i := 50) rfl, fun _ h => absurd h List.not_mem_nil⟩⟩⟩
set_option maxRecDepth 100000 in
theorem jz_m14 : ∀ w ∈ jx_mws 14, w ∈ lw_tbl := List.forall_mem_cons.mpr ⟨List.mem_of_getElem? (i := 570) rfl, List.forall_mem_cons.mpr ⟨List.mem_of_getElem? (i := 571) rfl, List.forall_mem_cons.mpr ⟨List.mem_of_getElem? (i := 51) rfl, fun _ h => absurd h List.not_mem_nil⟩⟩⟩
set_option maxRecDepth 100000 in
theorem jz_m15 : ∀ w ∈ jx_mws 15, w ∈ lw_tbl := List.forall_mem_cons.mpr ⟨List.mem_of_getElem? (i := 474) rfl, List.forall_mem_cons.mpr ⟨List.mem_of_getElem? (i := 11) rfl, List.forall_mem_cons.mpr ⟨List.mem_of_getElem? (i := 51) rfl, fun _ h => absurd h List.not_mem_nil⟩⟩⟩
set_option maxRecDepth 100000 in
theorem jz_m16 : ∀ w ∈ jx_mws 16, w ∈ lw_tbl := List.forall_mem_cons.mpr ⟨List.mem_of_getElem? (i := 542) rfl, List.forall_mem_cons.mpr ⟨List.mem_of_getElem? (i := 543) rfl, List.forall_mem_cons.mpr ⟨List.mem_of_getElem? (i := 51) rfl, fun _ h => absurd h List.not_mem_nil⟩⟩⟩
set_option maxRecDepth 100000 in
theorem jz_m17 : ∀ w ∈ jx_mws 17, w ∈ lw_tbl := List.forall_mem_cons.mpr ⟨List.mem_of_getElem? (i := 534) rfl, List.forall_mem_cons.mpr ⟨List.mem_of_getElem? (i := 535) rfl, List.forall_mem_cons.mpr ⟨List.mem_of_getElem? (i := 51) rfl, fun _ h => absurd h List.not_mem_nil⟩⟩⟩
set_option maxRecDepth 100000 in
theorem jz_m18 : ∀ w ∈ jx_mws 18, w ∈ lw_tbl := List.forall_mem_cons.mpr ⟨List.mem_of_getElem? (i := 538) rfl, List.forall_mem_cons.mpr ⟨List.mem_of_getElem? (i := 539) rfl, List.forall_mem_cons.mpr ⟨List.mem_of_getElem? (i := 51) rfl, fun _ h => absurd h List.not_mem_nil⟩⟩⟩
set_option maxRecDepth 100000 in
theorem jz_m19 : ∀ w ∈ jx_mws 19, w ∈ lw_tbl := List.forall_mem_cons.mpr ⟨List.mem_of_getElem? (i := 557) rfl, List.forall_mem_cons.mpr ⟨List.mem_of_getElem? (i := 558) rfl, List.forall_mem_cons.mpr ⟨List.mem_of_getElem? (i := 51) rfl, fun _ h => absurd h List.not_mem_nil⟩⟩⟩
set_option maxRecDepth 100000 in
theorem jz_m20 : ∀ w ∈ jx_mws 20, w ∈ lw_tbl := List.forall_mem_cons.mpr ⟨List.mem_of_getElem? (i := 206) rfl, List.forall_mem_cons.mpr ⟨List.mem_of_getElem? (i := 207) rfl, List.forall_mem_cons.mpr ⟨List.mem_of_getElem? (i := 52) rfl, fun _ h => absurd h List.not_mem_nil⟩⟩⟩
set_option maxRecDepth 100000 in
theorem jz_m21 : ∀ w ∈ jx_mws 21, w ∈ lw_tbl := List.forall_mem_cons.mpr ⟨List.mem_of_getElem? (i := 581) rfl, List.forall_mem_cons.mpr ⟨List.mem_of_getElem? (i := 582) rfl, List.forall_mem_cons.mpr ⟨List.mem_of_getElem? (i := 52) rfl, fun _ h => absurd h List.not_mem_nil⟩⟩⟩
set_option maxRecDepth 100000 in
theorem jz_m22 : ∀ w ∈ jx_mws 22, w ∈ lw_tbl := List.forall_mem_cons.mpr ⟨List.mem_of_getElem? (i := 198) rfl, List.forall_mem_cons.mpr ⟨List.mem_of_getElem? (i := 199) rfl, List.forall_mem_cons.mpr ⟨List.mem_of_getElem? (i := 52) rfl, fun _ h => absurd h List.not_mem_nil⟩⟩⟩
set_option maxRecDepth 100000 in
theorem jz_m23 : ∀ w ∈ jx_mws 23, w ∈ lw_tbl := List.forall_mem_cons.mpr ⟨List.mem_of_getElem? (i := 591) rfl, List.forall_mem_cons.mpr ⟨List.mem_of_getElem? (i := 21) rfl, List.forall_mem_cons.mpr ⟨List.mem_of_getElem? (i := 52) rfl, fun _ h => absurd h List.not_mem_nil⟩⟩⟩
set_option maxRecDepth 100000 in
theorem jz_m24 : ∀ w ∈ jx_mws 24, w ∈ lw_tbl := List.forall_mem_cons.mpr ⟨List.mem_of_getElem? (i := 650) rfl, List.forall_mem_cons.mpr ⟨List.mem_of_getElem? (i := 651) rfl, List.forall_mem_cons.mpr ⟨List.mem_of_getElem? (i := 52) rfl, fun _ h => absurd h List.not_mem_nil⟩⟩⟩
set_option maxRecDepth 100000 in
theorem jz_m25 : ∀ w ∈ jx_mws 25, w ∈ lw_tbl := List.forall_mem_cons.mpr ⟨List.mem_of_getElem? (i := 630) rfl, List.forall_mem_cons.mpr ⟨List.mem_of_getElem? (i := 631) rfl, List.forall_mem_cons.mpr ⟨List.mem_of_getElem? (i := 52) rfl, fun _ h => absurd h List.not_mem_nil⟩⟩⟩
set_option maxRecDepth 100000 in
theorem jz_m26 : ∀ w ∈ jx_mws 26, w ∈ lw_tbl := List.forall_mem_cons.mpr ⟨List.mem_of_getElem? (i := 799) rfl, List.forall_mem_cons.mpr ⟨List.mem_of_getElem? (i := 37) rfl, List.forall_mem_cons.mpr ⟨List.mem_of_getElem? (i := 54) rfl, fun _ h => absurd h List.not_mem_nil⟩⟩⟩
set_option maxRecDepth 100000 in
theorem jz_m27 : ∀ w ∈ jx_mws 27, w ∈ lw_tbl := List.forall_mem_cons.mpr ⟨List.mem_of_getElem? (i := 826) rfl, List.forall_mem_cons.mpr ⟨List.mem_of_getElem? (i := 827) rfl, List.forall_mem_cons.mpr ⟨List.mem_of_getElem? (i := 54) rfl, fun _ h => absurd h List.not_mem_nil⟩⟩⟩
set_option maxRecDepth 100000 in
theorem jz_m28 : ∀ w ∈ jx_mws 28, w ∈ lw_tbl := List.forall_mem_cons.mpr ⟨List.mem_of_getElem? (i := 743) rfl, List.forall_mem_cons.mpr ⟨List.mem_of_getElem? (i := 27) rfl, List.forall_mem_cons.mpr ⟨List.mem_of_getElem? (i := 54) rfl, fun _ h => absurd h List.not_mem_nil⟩⟩⟩
set_option maxRecDepth 100000 in
theorem jz_m29 : ∀ w ∈ jx_mws 29, w ∈ lw_tbl := List.forall_mem_cons.mpr ⟨List.mem_of_getElem? (i := 823) rfl, List.forall_mem_cons.mpr ⟨List.mem_of_getElem? (i := 43) rfl, List.forall_mem_cons.mpr ⟨List.mem_of_getElem? (i := 54) rfl, fun _ h => absurd h List.not_mem_nil⟩⟩⟩
set_option maxRecDepth 100000 in
theorem jz_m30 : ∀ w ∈ jx_mws 30, w ∈ lw_tbl := List.forall_mem_cons.mpr ⟨List.mem_of_getElem? (i := 726) rfl, List.forall_mem_cons.mpr ⟨List.mem_of_getElem? (i := 727) rfl, List.forall_mem_cons.mpr ⟨List.mem_of_getElem? (i := 54) rfl, fun _ h => absurd h List.not_mem_nil⟩⟩⟩
set_option maxRecDepth 100000 in
theorem jz_m31 : ∀ w ∈ jx_mws 31, w ∈ lw_tbl := List.forall_mem_cons.mpr ⟨List.mem_of_getElem? (i := 830) rfl, List.forall_mem_cons.mpr ⟨List.mem_of_getElem? (i := 831) rfl, List.forall_mem_cons.mpr ⟨List.mem_of_getElem? (i := 54) rfl, fun _ h => absurd h List.not_mem_nil⟩⟩⟩
set_option maxRecDepth 100000 in
theorem jz_m32 : ∀ w ∈ jx_mws 32, w ∈ lw_tbl := List.forall_mem_cons.mpr ⟨List.mem_of_getElem? (i := 771) rfl, List.forall_mem_cons.mpr ⟨List.mem_of_getElem? (i := 33) rfl, List.forall_mem_cons.mpr ⟨List.mem_of_getElem? (i := 54) rfl, fun _ h => absurd h List.not_mem_nil⟩⟩⟩
set_option maxRecDepth 100000 in
theorem jz_m33 : ∀ w ∈ jx_mws 33, w ∈ lw_tbl := List.forall_mem_cons.mpr ⟨List.mem_of_getElem? (i := 759) rfl, List.forall_mem_cons.mpr ⟨List.mem_of_getElem? (i := 31) rfl, List.forall_mem_cons.mpr ⟨List.mem_of_getElem? (i := 54) rfl, fun _ h => absurd h List.not_mem_nil⟩⟩⟩
set_option maxRecDepth 100000 in
theorem jz_m34 : ∀ w ∈ jx_mws 34, w ∈ lw_tbl := List.forall_mem_cons.mpr ⟨List.mem_of_getElem? (i := 850) rfl, List.forall_mem_cons.mpr ⟨List.mem_of_getElem? (i := 851) rfl, List.forall_mem_cons.mpr ⟨List.mem_of_getElem? (i := 54) rfl, fun _ h => absurd h List.not_mem_nil⟩⟩⟩
set_option maxRecDepth 100000 in
theorem jz_m35 : ∀ w ∈ jx_mws 35, w ∈ lw_tbl := List.forall_mem_cons.mpr ⟨List.mem_of_getElem? (i := 661) rfl, List.forall_mem_cons.mpr ⟨List.mem_of_getElem? (i := 25) rfl, List.forall_mem_cons.mpr ⟨List.mem_of_getElem? (i := 54) rfl, fun _ h => absurd h List.not_mem_nil⟩⟩⟩
set_option maxRecDepth 100000 in
theorem jz_m36 : ∀ w ∈ jx_mws 36, w ∈ lw_tbl := List.forall_mem_cons.mpr ⟨List.mem_of_getElem? (i := 854) rfl, List.forall_mem_cons.mpr ⟨List.mem_of_getElem? (i := 855) rfl, List.forall_mem_cons.mpr ⟨List.mem_of_getElem? (i := 54) rfl, fun _ h => absurd h List.not_mem_nil⟩⟩⟩
set_option maxRecDepth 100000 in
theorem jz_m37 : ∀ w ∈ jx_mws 37, w ∈ lw_tbl := List.forall_mem_cons.mpr ⟨List.mem_of_getElem? (i := 843) rfl, List.forall_mem_cons.mpr ⟨List.mem_of_getElem? (i := 45) rfl, List.forall_mem_cons.mpr ⟨List.mem_of_getElem? (i := 54) rfl, fun _ h => absurd h List.not_mem_nil⟩⟩⟩
set_option maxRecDepth 100000 in
theorem jz_m38 : ∀ w ∈ jx_mws 38, w ∈ lw_tbl := List.forall_mem_cons.mpr ⟨List.mem_of_getElem? (i := 755) rfl, List.forall_mem_cons.mpr ⟨List.mem_of_getElem? (i := 30) rfl, List.forall_mem_cons.mpr ⟨List.mem_of_getElem? (i := 54) rfl, fun _ h => absurd h List.not_mem_nil⟩⟩⟩
set_option maxRecDepth 100000 in
theorem jz_m39 : ∀ w ∈ jx_mws 39, w ∈ lw_tbl := List.forall_mem_cons.mpr ⟨List.mem_of_getElem? (i := 722) rfl, List.forall_mem_cons.mpr ⟨List.mem_of_getElem? (i := 723) rfl, List.forall_mem_cons.mpr ⟨List.mem_of_getElem? (i := 54) rfl, fun _ h => absurd h List.not_mem_nil⟩⟩⟩
set_option maxRecDepth 100000 in
theorem jz_m40 : ∀ w ∈ jx_mws 40, w ∈ lw_tbl := List.forall_mem_cons.mpr ⟨List.mem_of_getElem? (i := 787) rfl, List.forall_mem_cons.mpr ⟨List.mem_of_getElem? (i := 34) rfl, List.forall_mem_cons.mpr ⟨List.mem_of_getElem? (i := 54) rfl, fun _ h => absurd h List.not_mem_nil⟩⟩⟩
set_option maxRecDepth 100000 in
theorem jz_m41 : ∀ w ∈ jx_mws 41, w ∈ lw_tbl := List.forall_mem_cons.mpr ⟨List.mem_of_getElem? (i := 730) rfl, List.forall_mem_cons.mpr ⟨List.mem_of_getElem? (i := 731) rfl, List.forall_mem_cons.mpr ⟨List.mem_of_getElem? (i := 54) rfl, fun _ h => absurd h List.not_mem_nil⟩⟩⟩
set_option maxRecDepth 100000 in
theorem jz_m42 : ∀ w ∈ jx_mws 42, w ∈ lw_tbl := List.forall_mem_cons.mpr ⟨List.mem_of_getElem? (i := 335) rfl, List.forall_mem_cons.mpr ⟨List.mem_of_getElem? (i := 60) rfl, fun _ h => absurd h List.not_mem_nil⟩⟩
set_option maxRecDepth 100000 in
theorem jz_m43 : ∀ w ∈ jx_mws 43, w ∈ lw_tbl := List.forall_mem_cons.mpr ⟨List.mem_of_getElem? (i := 340) rfl, List.forall_mem_cons.mpr ⟨List.mem_of_getElem? (i := 60) rfl, fun _ h => absurd h List.not_mem_nil⟩⟩
set_option maxRecDepth 100000 in
theorem jz_m44 : ∀ w ∈ jx_mws 44, w ∈ lw_tbl := List.forall_mem_cons.mpr ⟨List.mem_of_getElem? (i := 514) rfl, List.forall_mem_cons.mpr ⟨List.mem_of_getElem? (i := 60) rfl, fun _ h => absurd h List.not_mem_nil⟩⟩
set_option maxRecDepth 100000 in
theorem jz_m45 : ∀ w ∈ jx_mws 45, w ∈ lw_tbl := List.forall_mem_cons.mpr ⟨List.mem_of_getElem? (i := 565) rfl, List.forall_mem_cons.mpr ⟨List.mem_of_getElem? (i := 566) rfl, List.forall_mem_cons.mpr ⟨List.mem_of_getElem? (i := 48) rfl, fun _ h => absurd h List.not_mem_nil⟩⟩⟩
set_option maxRecDepth 100000 in
theorem jz_m46 : ∀ w ∈ jx_mws 46, w ∈ lw_tbl := List.forall_mem_cons.mpr ⟨List.mem_of_getElem? (i := 416) rfl, List.forall_mem_cons.mpr ⟨List.mem_of_getElem? (i := 7) rfl, List.forall_mem_cons.mpr ⟨List.mem_of_getElem? (i := 48) rfl, fun _ h => absurd h List.not_mem_nil⟩⟩⟩
set_option maxRecDepth 100000 in
theorem jz_m47 : ∀ w ∈ jx_mws 47, w ∈ lw_tbl := List.forall_mem_cons.mpr ⟨List.mem_of_getElem? (i := 194) rfl, List.forall_mem_cons.mpr ⟨List.mem_of_getElem? (i := 195) rfl, List.forall_mem_cons.mpr ⟨List.mem_of_getElem? (i := 48) rfl, fun _ h => absurd h List.not_mem_nil⟩⟩⟩
set_option maxRecDepth 100000 in
theorem jz_m48 : ∀ w ∈ jx_mws 48, w ∈ lw_tbl := List.forall_mem_cons.mpr ⟨List.mem_of_getElem? (i := 626) rfl, List.forall_mem_cons.mpr ⟨List.mem_of_getElem? (i := 627) rfl, List.forall_mem_cons.mpr ⟨List.mem_of_getElem? (i := 48) rfl, fun _ h => absurd h List.not_mem_nil⟩⟩⟩
set_option maxRecDepth 100000 in
theorem jz_m49 : ∀ w ∈ jx_mws 49, w ∈ lw_tbl := List.forall_mem_cons.mpr ⟨List.mem_of_getElem? (i := 202) rfl, List.forall_mem_cons.mpr ⟨List.mem_of_getElem? (i := 203) rfl, List.forall_mem_cons.mpr ⟨List.mem_of_getElem? (i := 48) rfl, fun _ h => absurd h List.not_mem_nil⟩⟩⟩
set_option maxRecDepth 100000 in
theorem jz_m50 : ∀ w ∈ jx_mws 50, w ∈ lw_tbl := List.forall_mem_cons.mpr ⟨List.mem_of_getElem? (i := 470) rfl, List.forall_mem_cons.mpr ⟨List.mem_of_getElem? (i := 10) rfl, List.forall_mem_cons.mpr ⟨List.mem_of_getElem? (i := 53) rfl, fun _ h => absurd h List.not_mem_nil⟩⟩⟩
set_option maxRecDepth 100000 in
theorem jz_m51 : ∀ w ∈ jx_mws 51, w ∈ lw_tbl := List.forall_mem_cons.mpr ⟨List.mem_of_getElem? (i := 368) rfl, List.forall_mem_cons.mpr ⟨List.mem_of_getElem? (i := 369) rfl, List.forall_mem_cons.mpr ⟨List.mem_of_getElem? (i := 53) rfl, fun _ h => absurd h List.not_mem_nil⟩⟩⟩
set_option maxRecDepth 100000 in
theorem jz_m52 : ∀ w ∈ jx_mws 52, w ∈ lw_tbl := List.forall_mem_cons.mpr ⟨List.mem_of_getElem? (i := 507) rfl, List.forall_mem_cons.mpr ⟨List.mem_of_getElem? (i := 16) rfl, List.forall_mem_cons.mpr ⟨List.mem_of_getElem? (i := 49) rfl, fun _ h => absurd h List.not_mem_nil⟩⟩⟩
set_option maxRecDepth 100000 in
theorem jz_m53 : ∀ w ∈ jx_mws 53, w ∈ lw_tbl := List.forall_mem_cons.mpr ⟨List.mem_of_getElem? (i := 387) rfl, List.forall_mem_cons.mpr ⟨List.mem_of_getElem? (i := 388) rfl, List.forall_mem_cons.mpr ⟨List.mem_of_getElem? (i := 49) rfl, fun _ h => absurd h List.not_mem_nil⟩⟩⟩
set_option maxRecDepth 100000 in
theorem jz_m54 : ∀ w ∈ jx_mws 54, w ∈ lw_tbl := List.forall_mem_cons.mpr ⟨List.mem_of_getElem? (i := 494) rfl, List.forall_mem_cons.mpr ⟨List.mem_of_getElem? (i := 13) rfl, List.forall_mem_cons.mpr ⟨List.mem_of_getElem? (i := 49) rfl, fun _ h => absurd h List.not_mem_nil⟩⟩⟩
set_option maxRecDepth 100000 in
theorem jz_m55 : ∀ w ∈ jx_mws 55, w ∈ lw_tbl := List.forall_mem_cons.mpr ⟨List.mem_of_getElem? (i := 526) rfl, List.forall_mem_cons.mpr ⟨List.mem_of_getElem? (i := 527) rfl, List.forall_mem_cons.mpr ⟨List.mem_of_getElem? (i := 49) rfl, fun _ h => absurd h List.not_mem_nil⟩⟩⟩
set_option maxRecDepth 100000 in
theorem jz_m56 : ∀ w ∈ jx_mws 56, w ∈ lw_tbl := List.forall_mem_cons.mpr ⟨List.mem_of_getElem? (i := 511) rfl, List.forall_mem_cons.mpr ⟨List.mem_of_getElem? (i := 17) rfl, List.forall_mem_cons.mpr ⟨List.mem_of_getElem? (i := 49) rfl, fun _ h => absurd h List.not_mem_nil⟩⟩⟩
set_option maxRecDepth 100000 in
theorem jz_m57 : ∀ w ∈ jx_mws 57, w ∈ lw_tbl := List.forall_mem_cons.mpr ⟨List.mem_of_getElem? (i := 380) rfl, List.forall_mem_cons.mpr ⟨List.mem_of_getElem? (i := 381) rfl, List.forall_mem_cons.mpr ⟨List.mem_of_getElem? (i := 49) rfl, fun _ h => absurd h List.not_mem_nil⟩⟩⟩
set_option maxRecDepth 100000 in
theorem jz_m58 : ∀ w ∈ jx_mws 58, w ∈ lw_tbl := List.forall_mem_cons.mpr ⟨List.mem_of_getElem? (i := 608) rfl, List.forall_mem_cons.mpr ⟨List.mem_of_getElem? (i := 609) rfl, List.forall_mem_cons.mpr ⟨List.mem_of_getElem? (i := 50) rfl, fun _ h => absurd h List.not_mem_nil⟩⟩⟩
set_option maxRecDepth 100000 in
theorem jz_m59 : ∀ w ∈ jx_mws 59, w ∈ lw_tbl := List.forall_mem_cons.mpr ⟨List.mem_of_getElem? (i := 332) rfl, List.forall_mem_cons.mpr ⟨List.mem_of_getElem? (i := 4) rfl, List.forall_mem_cons.mpr ⟨List.mem_of_getElem? (i := 50) rfl, fun _ h => absurd h List.not_mem_nil⟩⟩⟩
set_option maxRecDepth 100000 in
theorem jz_m60 : ∀ w ∈ jx_mws 60, w ∈ lw_tbl := List.forall_mem_cons.mpr ⟨List.mem_of_getElem? (i := 531) rfl, List.forall_mem_cons.mpr ⟨List.mem_of_getElem? (i := 19) rfl, List.forall_mem_cons.mpr ⟨List.mem_of_getElem? (i := 51) rfl, fun _ h => absurd h List.not_mem_nil⟩⟩⟩
set_option maxRecDepth 100000 in
theorem jz_m61 : ∀ w ∈ jx_mws 61, w ∈ lw_tbl := List.forall_mem_cons.mpr ⟨List.mem_of_getElem? (i := 595) rfl, List.forall_mem_cons.mpr ⟨List.mem_of_getElem? (i := 22) rfl, List.forall_mem_cons.mpr ⟨List.mem_of_getElem? (i := 52) rfl, fun _ h => absurd h List.not_mem_nil⟩⟩⟩
set_option maxRecDepth 100000 in
theorem jz_m62 : ∀ w ∈ jx_mws 62, w ∈ lw_tbl := List.forall_mem_cons.mpr ⟨List.mem_of_getElem? (i := 554) rfl, List.forall_mem_cons.mpr ⟨List.mem_of_getElem? (i := 20) rfl, List.forall_mem_cons.mpr ⟨List.mem_of_getElem? (i := 52) rfl, fun _ h => absurd h List.not_mem_nil⟩⟩⟩
set_option maxRecDepth 100000 in
theorem jz_m63 : ∀ w ∈ jx_mws 63, w ∈ lw_tbl := List.forall_mem_cons.mpr ⟨List.mem_of_getElem? (i := 618) rfl, List.forall_mem_cons.mpr ⟨List.mem_of_getElem? (i := 24) rfl, List.forall_mem_cons.mpr ⟨List.mem_of_getElem? (i := 52) rfl, fun _ h => absurd h List.not_mem_nil⟩⟩⟩
set_option maxRecDepth 100000 in
theorem jz_m64 : ∀ w ∈ jx_mws 64, w ∈ lw_tbl := List.forall_mem_cons.mpr ⟨List.mem_of_getElem? (i := 774) rfl, List.forall_mem_cons.mpr ⟨List.mem_of_getElem? (i := 775) rfl, List.forall_mem_cons.mpr ⟨List.mem_of_getElem? (i := 54) rfl, fun _ h => absurd h List.not_mem_nil⟩⟩⟩
set_option maxRecDepth 100000 in
theorem jz_m65 : ∀ w ∈ jx_mws 65, w ∈ lw_tbl := List.forall_mem_cons.mpr ⟨List.mem_of_getElem? (i := 763) rfl, List.forall_mem_cons.mpr ⟨List.mem_of_getElem? (i := 32) rfl, List.forall_mem_cons.mpr ⟨List.mem_of_getElem? (i := 54) rfl, fun _ h => absurd h List.not_mem_nil⟩⟩⟩
set_option maxRecDepth 100000 in
theorem jz_m66 : ∀ w ∈ jx_mws 66, w ∈ lw_tbl := List.forall_mem_cons.mpr ⟨List.mem_of_getElem? (i := 766) rfl, List.forall_mem_cons.mpr ⟨List.mem_of_getElem? (i := 767) rfl, List.forall_mem_cons.mpr ⟨List.mem_of_getElem? (i := 54) rfl, fun _ h => absurd h List.not_mem_nil⟩⟩⟩
set_option maxRecDepth 100000 in
theorem jz_m67 : ∀ w ∈ jx_mws 67, w ∈ lw_tbl := List.forall_mem_cons.mpr ⟨List.mem_of_getElem? (i := 819) rfl, List.forall_mem_cons.mpr ⟨List.mem_of_getElem? (i := 42) rfl, List.forall_mem_cons.mpr ⟨List.mem_of_getElem? (i := 54) rfl, fun _ h => absurd h List.not_mem_nil⟩⟩⟩
set_option maxRecDepth 100000 in
theorem jz_m68 : ∀ w ∈ jx_mws 68, w ∈ lw_tbl := List.forall_mem_cons.mpr ⟨List.mem_of_getElem? (i := 778) rfl, List.forall_mem_cons.mpr ⟨List.mem_of_getElem? (i := 779) rfl, List.forall_mem_cons.mpr ⟨List.mem_of_getElem? (i := 54) rfl, fun _ h => absurd h List.not_mem_nil⟩⟩⟩
set_option maxRecDepth 100000 in
theorem jz_m69 : ∀ w ∈ jx_mws 69, w ∈ lw_tbl := List.forall_mem_cons.mpr ⟨List.mem_of_getElem? (i := 791) rfl, List.forall_mem_cons.mpr ⟨List.mem_of_getElem? (i := 35) rfl, List.forall_mem_cons.mpr ⟨List.mem_of_getElem? (i := 54) rfl, fun _ h => absurd h List.not_mem_nil⟩⟩⟩
set_option maxRecDepth 100000 in
theorem jz_m70 : ∀ w ∈ jx_mws 70, w ∈ lw_tbl := List.forall_mem_cons.mpr ⟨List.mem_of_getElem? (i := 847) rfl, List.forall_mem_cons.mpr ⟨List.mem_of_getElem? (i := 46) rfl, List.forall_mem_cons.mpr ⟨List.mem_of_getElem? (i := 54) rfl, fun _ h => absurd h List.not_mem_nil⟩⟩⟩
set_option maxRecDepth 100000 in
theorem jz_m71 : ∀ w ∈ jx_mws 71, w ∈ lw_tbl := List.forall_mem_cons.mpr ⟨List.mem_of_getElem? (i := 839) rfl, List.forall_mem_cons.mpr ⟨List.mem_of_getElem? (i := 44) rfl, List.forall_mem_cons.mpr ⟨List.mem_of_getElem? (i := 54) rfl, fun _ h => absurd h List.not_mem_nil⟩⟩⟩
set_option maxRecDepth 100000 in
theorem jz_m72 : ∀ w ∈ jx_mws 72, w ∈ lw_tbl := List.forall_mem_cons.mpr ⟨List.mem_of_getElem? (i := 751) rfl, List.forall_mem_cons.mpr ⟨List.mem_of_getElem? (i := 29) rfl, List.forall_mem_cons.mpr ⟨List.mem_of_getElem? (i := 54) rfl, fun _ h => absurd h List.not_mem_nil⟩⟩⟩
set_option maxRecDepth 100000 in
theorem jz_m73 : ∀ w ∈ jx_mws 73, w ∈ lw_tbl := List.forall_mem_cons.mpr ⟨List.mem_of_getElem? (i := 815) rfl, List.forall_mem_cons.mpr ⟨List.mem_of_getElem? (i := 41) rfl, List.forall_mem_cons.mpr ⟨List.mem_of_getElem? (i := 54) rfl, fun _ h => absurd h List.not_mem_nil⟩⟩⟩
set_option maxRecDepth 100000 in
theorem jz_m74 : ∀ w ∈ jx_mws 74, w ∈ lw_tbl := List.forall_mem_cons.mpr ⟨List.mem_of_getElem? (i := 811) rfl, List.forall_mem_cons.mpr ⟨List.mem_of_getElem? (i := 40) rfl, List.forall_mem_cons.mpr ⟨List.mem_of_getElem? (i := 54) rfl, fun _ h => absurd h List.not_mem_nil⟩⟩⟩
set_option maxRecDepth 100000 in
theorem jz_m75 : ∀ w ∈ jx_mws 75, w ∈ lw_tbl := List.forall_mem_cons.mpr ⟨List.mem_of_getElem? (i := 521) rfl, List.forall_mem_cons.mpr ⟨List.mem_of_getElem? (i := 60) rfl, fun _ h => absurd h List.not_mem_nil⟩⟩
set_option maxRecDepth 100000 in
theorem jz_m76 : ∀ w ∈ jx_mws 76, w ∈ lw_tbl := List.forall_mem_cons.mpr ⟨List.mem_of_getElem? (i := 428) rfl, List.forall_mem_cons.mpr ⟨List.mem_of_getElem? (i := 429) rfl, List.forall_mem_cons.mpr ⟨List.mem_of_getElem? (i := 48) rfl, fun _ h => absurd h List.not_mem_nil⟩⟩⟩
set_option maxRecDepth 100000 in
theorem jz_m77 : ∀ w ∈ jx_mws 77, w ∈ lw_tbl := List.forall_mem_cons.mpr ⟨List.mem_of_getElem? (i := 411) rfl, List.forall_mem_cons.mpr ⟨List.mem_of_getElem? (i := 412) rfl, List.forall_mem_cons.mpr ⟨List.mem_of_getElem? (i := 48) rfl, fun _ h => absurd h List.not_mem_nil⟩⟩⟩
set_option maxRecDepth 100000 in
theorem jz_m78 : ∀ w ∈ jx_mws 78, w ∈ lw_tbl := List.forall_mem_cons.mpr ⟨List.mem_of_getElem? (i := 440) rfl, List.forall_mem_cons.mpr ⟨List.mem_of_getElem? (i := 441) rfl, List.forall_mem_cons.mpr ⟨List.mem_of_getElem? (i := 48) rfl, fun _ h => absurd h List.not_mem_nil⟩⟩⟩
set_option maxRecDepth 100000 in
theorem jz_m79 : ∀ w ∈ jx_mws 79, w ∈ lw_tbl := List.forall_mem_cons.mpr ⟨List.mem_of_getElem? (i := 362) rfl, List.forall_mem_cons.mpr ⟨List.mem_of_getElem? (i := 6) rfl, List.forall_mem_cons.mpr ⟨List.mem_of_getElem? (i := 53) rfl, fun _ h => absurd h List.not_mem_nil⟩⟩⟩
set_option maxRecDepth 100000 in
theorem jz_m80 : ∀ w ∈ jx_mws 80, w ∈ lw_tbl := List.forall_mem_cons.mpr ⟨List.mem_of_getElem? (i := 398) rfl, List.forall_mem_cons.mpr ⟨List.mem_of_getElem? (i := 399) rfl, List.forall_mem_cons.mpr ⟨List.mem_of_getElem? (i := 53) rfl, fun _ h => absurd h List.not_mem_nil⟩⟩⟩
set_option maxRecDepth 100000 in
theorem jz_m81 : ∀ w ∈ jx_mws 81, w ∈ lw_tbl := List.forall_mem_cons.mpr ⟨List.mem_of_getElem? (i := 466) rfl, List.forall_mem_cons.mpr ⟨List.mem_of_getElem? (i := 9) rfl, List.forall_mem_cons.mpr ⟨List.mem_of_getElem? (i := 53) rfl, fun _ h => absurd h List.not_mem_nil⟩⟩⟩
set_option maxRecDepth 100000 in
theorem jz_m82 : ∀ w ∈ jx_mws 82, w ∈ lw_tbl := List.forall_mem_cons.mpr ⟨List.mem_of_getElem? (i := 485) rfl, List.forall_mem_cons.mpr ⟨List.mem_of_getElem? (i := 486) rfl, List.forall_mem_cons.mpr ⟨List.mem_of_getElem? (i := 53) rfl, fun _ h => absurd h List.not_mem_nil⟩⟩⟩
set_option maxRecDepth 100000 in
theorem jz_m83 : ∀ w ∈ jx_mws 83, w ∈ lw_tbl := List.forall_mem_cons.mpr ⟨List.mem_of_getElem? (i := 503) rfl, List.forall_mem_cons.mpr ⟨List.mem_of_getElem? (i := 15) rfl, List.forall_mem_cons.mpr ⟨List.mem_of_getElem? (i := 49) rfl, fun _ h => absurd h List.not_mem_nil⟩⟩⟩
set_option maxRecDepth 100000 in
theorem jz_m84 : ∀ w ∈ jx_mws 84, w ∈ lw_tbl := List.forall_mem_cons.mpr ⟨List.mem_of_getElem? (i := 518) rfl, List.forall_mem_cons.mpr ⟨List.mem_of_getElem? (i := 18) rfl, List.forall_mem_cons.mpr ⟨List.mem_of_getElem? (i := 49) rfl, fun _ h => absurd h List.not_mem_nil⟩⟩⟩
set_option maxRecDepth 100000 in
theorem jz_m85 : ∀ w ∈ jx_mws 85, w ∈ lw_tbl := List.forall_mem_cons.mpr ⟨List.mem_of_getElem? (i := 323) rfl, List.forall_mem_cons.mpr ⟨List.mem_of_getElem? (i := 324) rfl, List.forall_mem_cons.mpr ⟨List.mem_of_getElem? (i := 50) rfl, fun _ h => absurd h List.not_mem_nil⟩⟩⟩
set_option maxRecDepth 100000 in
theorem jz_m86 : ∀ w ∈ jx_mws 86, w ∈ lw_tbl := List.forall_mem_cons.mpr ⟨List.mem_of_getElem? (i := 612) rfl, List.forall_mem_cons.mpr ⟨List.mem_of_getElem? (i := 613) rfl, List.forall_mem_cons.mpr ⟨List.mem_of_getElem? (i := 50) rfl, fun _ h => absurd h List.not_mem_nil⟩⟩⟩
set_option maxRecDepth 100000 in
theorem jz_m87 : ∀ w ∈ jx_mws 87, w ∈ lw_tbl := List.forall_mem_cons.mpr ⟨List.mem_of_getElem? (i := 603) rfl, List.forall_mem_cons.mpr ⟨List.mem_of_getElem? (i := 604) rfl, List.forall_mem_cons.mpr ⟨List.mem_of_getElem? (i := 50) rfl, fun _ h => absurd h List.not_mem_nil⟩⟩⟩
set_option maxRecDepth 100000 in
theorem jz_m88 : ∀ w ∈ jx_mws 88, w ∈ lw_tbl := List.forall_mem_cons.mpr ⟨List.mem_of_getElem? (i := 546) rfl, List.forall_mem_cons.mpr ⟨List.mem_of_getElem? (i := 547) rfl, List.forall_mem_cons.mpr ⟨List.mem_of_getElem? (i := 52) rfl, fun _ h => absurd h List.not_mem_nil⟩⟩⟩
set_option maxRecDepth 100000 in
theorem jz_m89 : ∀ w ∈ jx_mws 89, w ∈ lw_tbl := List.forall_mem_cons.mpr ⟨List.mem_of_getElem? (i := 747) rfl, List.forall_mem_cons.mpr ⟨List.mem_of_getElem? (i := 28) rfl, List.forall_mem_cons.mpr ⟨List.mem_of_getElem? (i := 54) rfl, fun _ h => absurd h List.not_mem_nil⟩⟩⟩
set_option maxRecDepth 100000 in
theorem jz_m90 : ∀ w ∈ jx_mws 90, w ∈ lw_tbl := List.forall_mem_cons.mpr ⟨List.mem_of_getElem? (i := 807) rfl, List.forall_mem_cons.mpr ⟨List.mem_of_getElem? (i := 39) rfl, List.forall_mem_cons.mpr ⟨List.mem_of_getElem? (i := 54) rfl, fun _ h => absurd h List.not_mem_nil⟩⟩⟩
set_option maxRecDepth 100000 in
theorem jz_m91 : ∀ w ∈ jx_mws 91, w ∈ lw_tbl := List.forall_mem_cons.mpr ⟨List.mem_of_getElem? (i := 834) rfl, List.forall_mem_cons.mpr ⟨List.mem_of_getElem? (i := 835) rfl, List.forall_mem_cons.mpr ⟨List.mem_of_getElem? (i := 54) rfl, fun _ h => absurd h List.not_mem_nil⟩⟩⟩
set_option maxRecDepth 100000 in
theorem jz_m92 : ∀ w ∈ jx_mws 92, w ∈ lw_tbl := List.forall_mem_cons.mpr ⟨List.mem_of_getElem? (i := 312) rfl, List.forall_mem_cons.mpr ⟨List.mem_of_getElem? (i := 1) rfl, List.forall_mem_cons.mpr ⟨List.mem_of_getElem? (i := 48) rfl, fun _ h => absurd h List.not_mem_nil⟩⟩⟩
set_option maxRecDepth 100000 in
theorem jz_m93 : ∀ w ∈ jx_mws 93, w ∈ lw_tbl := List.forall_mem_cons.mpr ⟨List.mem_of_getElem? (i := 357) rfl, List.forall_mem_cons.mpr ⟨List.mem_of_getElem? (i := 358) rfl, List.forall_mem_cons.mpr ⟨List.mem_of_getElem? (i := 53) rfl, fun _ h => absurd h List.not_mem_nil⟩⟩⟩
set_option maxRecDepth 100000 in
theorem jz_m94 : ∀ w ∈ jx_mws 94, w ∈ lw_tbl := List.forall_mem_cons.mpr ⟨List.mem_of_getElem? (i := 461) rfl, List.forall_mem_cons.mpr ⟨List.mem_of_getElem? (i := 462) rfl, List.forall_mem_cons.mpr ⟨List.mem_of_getElem? (i := 53) rfl, fun _ h => absurd h List.not_mem_nil⟩⟩⟩
set_option maxRecDepth 100000 in
theorem jz_m95 : ∀ w ∈ jx_mws 95, w ∈ lw_tbl := List.forall_mem_cons.mpr ⟨List.mem_of_getElem? (i := 489) rfl, List.forall_mem_cons.mpr ⟨List.mem_of_getElem? (i := 490) rfl, List.forall_mem_cons.mpr ⟨List.mem_of_getElem? (i := 49) rfl, fun _ h => absurd h List.not_mem_nil⟩⟩⟩
set_option maxRecDepth 100000 in
theorem jz_m96 : ∀ w ∈ jx_mws 96, w ∈ lw_tbl := List.forall_mem_cons.mpr ⟨List.mem_of_getElem? (i := 394) rfl, List.forall_mem_cons.mpr ⟨List.mem_of_getElem? (i := 395) rfl, List.forall_mem_cons.mpr ⟨List.mem_of_getElem? (i := 49) rfl, fun _ h => absurd h List.not_mem_nil⟩⟩⟩
set_option maxRecDepth 100000 in
theorem jz_m97 : ∀ w ∈ jx_mws 97, w ∈ lw_tbl := List.forall_mem_cons.mpr ⟨List.mem_of_getElem? (i := 481) rfl, List.forall_mem_cons.mpr ⟨List.mem_of_getElem? (i := 482) rfl, List.forall_mem_cons.mpr ⟨List.mem_of_getElem? (i := 49) rfl, fun _ h => absurd h List.not_mem_nil⟩⟩⟩
set_option maxRecDepth 100000 in
theorem jz_m98 : ∀ w ∈ jx_mws 98, w ∈ lw_tbl := List.forall_mem_cons.mpr ⟨List.mem_of_getElem? (i := 600) rfl, List.forall_mem_cons.mpr ⟨List.mem_of_getElem? (i := 23) rfl, List.forall_mem_cons.mpr ⟨List.mem_of_getElem? (i := 52) rfl, fun _ h => absurd h List.not_mem_nil⟩⟩⟩
set_option maxRecDepth 100000 in
theorem jz_m99 : ∀ w ∈ jx_mws 99, w ∈ lw_tbl := List.forall_mem_cons.mpr ⟨List.mem_of_getElem? (i := 803) rfl, List.forall_mem_cons.mpr ⟨List.mem_of_getElem? (i := 38) rfl, List.forall_mem_cons.mpr ⟨List.mem_of_getElem? (i := 54) rfl, fun _ h => absurd h List.not_mem_nil⟩⟩⟩
set_option maxRecDepth 100000 in
theorem jz_m100 : ∀ w ∈ jx_mws 100, w ∈ lw_tbl := List.forall_mem_cons.mpr ⟨List.mem_of_getElem? (i := 739) rfl, List.forall_mem_cons.mpr ⟨List.mem_of_getElem? (i := 26) rfl, List.forall_mem_cons.mpr ⟨List.mem_of_getElem? (i := 54) rfl, fun _ h => absurd h List.not_mem_nil⟩⟩⟩
set_option maxRecDepth 100000 in
theorem jz_m101 : ∀ w ∈ jx_mws 101, w ∈ lw_tbl := List.forall_mem_cons.mpr ⟨List.mem_of_getElem? (i := 350) rfl, List.forall_mem_cons.mpr ⟨List.mem_of_getElem? (i := 5) rfl, List.forall_mem_cons.mpr ⟨List.mem_of_getElem? (i := 48) rfl, fun _ h => absurd h List.not_mem_nil⟩⟩⟩
set_option maxRecDepth 100000 in
theorem jz_m102 : ∀ w ∈ jx_mws 102, w ∈ lw_tbl := List.forall_mem_cons.mpr ⟨List.mem_of_getElem? (i := 478) rfl, List.forall_mem_cons.mpr ⟨List.mem_of_getElem? (i := 12) rfl, List.forall_mem_cons.mpr ⟨List.mem_of_getElem? (i := 51) rfl, fun _ h => absurd h List.not_mem_nil⟩⟩⟩
set_option maxRecDepth 100000 in
theorem jz_m103 : ∀ w ∈ jx_mws 103, w ∈ lw_tbl := List.forall_mem_cons.mpr ⟨List.mem_of_getElem? (i := 458) rfl, List.forall_mem_cons.mpr ⟨List.mem_of_getElem? (i := 51) rfl, fun _ h => absurd h List.not_mem_nil⟩⟩
set_option maxRecDepth 100000 in
theorem jz_m104 : ∀ w ∈ jx_mws 104, w ∈ lw_tbl := List.forall_mem_cons.mpr ⟨List.mem_of_getElem? (i := 586) rfl, List.forall_mem_cons.mpr ⟨List.mem_of_getElem? (i := 587) rfl, List.forall_mem_cons.mpr ⟨List.mem_of_getElem? (i := 52) rfl, fun _ h => absurd h List.not_mem_nil⟩⟩⟩
set_option maxRecDepth 100000 in
theorem jz_m105 : ∀ w ∈ jx_mws 105, w ∈ lw_tbl := List.forall_mem_cons.mpr ⟨List.mem_of_getElem? (i := 734) rfl, List.forall_mem_cons.mpr ⟨List.mem_of_getElem? (i := 735) rfl, List.forall_mem_cons.mpr ⟨List.mem_of_getElem? (i := 54) rfl, fun _ h => absurd h List.not_mem_nil⟩⟩⟩
set_option maxRecDepth 100000 in
theorem jz_m106 : ∀ w ∈ jx_mws 106, w ∈ lw_tbl := List.forall_mem_cons.mpr ⟨List.mem_of_getElem? (i := 795) rfl, List.forall_mem_cons.mpr ⟨List.mem_of_getElem? (i := 36) rfl, List.forall_mem_cons.mpr ⟨List.mem_of_getElem? (i := 54) rfl, fun _ h => absurd h List.not_mem_nil⟩⟩⟩
set_option maxRecDepth 100000 in
theorem jz_m107 : ∀ w ∈ jx_mws 107, w ∈ lw_tbl := List.forall_mem_cons.mpr ⟨List.mem_of_getElem? (i := 306) rfl, List.forall_mem_cons.mpr ⟨List.mem_of_getElem? (i := 307) rfl, List.forall_mem_cons.mpr ⟨List.mem_of_getElem? (i := 48) rfl, fun _ h => absurd h List.not_mem_nil⟩⟩⟩
set_option maxRecDepth 100000 in
theorem jz_m108 : ∀ w ∈ jx_mws 108, w ∈ lw_tbl := List.forall_mem_cons.mpr ⟨List.mem_of_getElem? (i := 577) rfl, List.forall_mem_cons.mpr ⟨List.mem_of_getElem? (i := 578) rfl, List.forall_mem_cons.mpr ⟨List.mem_of_getElem? (i := 48) rfl, fun _ h => absurd h List.not_mem_nil⟩⟩⟩
set_option maxRecDepth 100000 in
theorem jz_m109 : ∀ w ∈ jx_mws 109, w ∈ lw_tbl := List.forall_mem_cons.mpr ⟨List.mem_of_getElem? (i := 454) rfl, List.forall_mem_cons.mpr ⟨List.mem_of_getElem? (i := 455) rfl, List.forall_mem_cons.mpr ⟨List.mem_of_getElem? (i := 51) rfl, fun _ h => absurd h List.not_mem_nil⟩⟩⟩
set_option maxRecDepth 100000 in
theorem jz_m110 : ∀ w ∈ jx_mws 110, w ∈ lw_tbl := List.forall_mem_cons.mpr ⟨List.mem_of_getElem? (i := 782) rfl, List.forall_mem_cons.mpr ⟨List.mem_of_getElem? (i := 783) rfl, List.forall_mem_cons.mpr ⟨List.mem_of_getElem? (i := 54) rfl, fun _ h => absurd h List.not_mem_nil⟩⟩⟩
set_option maxRecDepth 100000 in
theorem jz_m111 : ∀ w ∈ jx_mws 111, w ∈ lw_tbl := List.forall_mem_cons.mpr ⟨List.mem_of_getElem? (i := 448) rfl, List.forall_mem_cons.mpr ⟨List.mem_of_getElem? (i := 449) rfl, List.forall_mem_cons.mpr ⟨List.mem_of_getElem? (i := 48) rfl, fun _ h => absurd h List.not_mem_nil⟩⟩⟩
theorem jz_c (κ : Nat) (h : κ < jx_nn) : jx_cod κ ∈ lw_tbl ∧ ∀ w ∈ jx_mws κ, w ∈ lw_tbl := by
  match κ, h with
  | 0, _ => exact ⟨jz_c0, jz_m0⟩
  | 1, _ => exact ⟨jz_c1, jz_m1⟩
  | 2, _ => exact ⟨jz_c2, jz_m2⟩
  | 3, _ => exact ⟨jz_c3, jz_m3⟩
  | 4, _ => exact ⟨jz_c4, jz_m4⟩
  | 5, _ => exact ⟨jz_c5, jz_m5⟩
  | 6, _ => exact ⟨jz_c6, jz_m6⟩
  | 7, _ => exact ⟨jz_c7, jz_m7⟩
  | 8, _ => exact ⟨jz_c8, jz_m8⟩
  | 9, _ => exact ⟨jz_c9, jz_m9⟩
  | 10, _ => exact ⟨jz_c10, jz_m10⟩
  | 11, _ => exact ⟨jz_c11, jz_m11⟩
  | 12, _ => exact ⟨jz_c12, jz_m12⟩
  | 13, _ => exact ⟨jz_c13, jz_m13⟩
  | 14, _ => exact ⟨jz_c14, jz_m14⟩
  | 15, _ => exact ⟨jz_c15, jz_m15⟩
  | 16, _ => exact ⟨jz_c16, jz_m16⟩
  | 17, _ => exact ⟨jz_c17, jz_m17⟩
  | 18, _ => exact ⟨jz_c18, jz_m18⟩
  | 19, _ => exact ⟨jz_c19, jz_m19⟩
  | 20, _ => exact ⟨jz_c20, jz_m20⟩
  | 21, _ => exact ⟨jz_c21, jz_m21⟩
  | 22, _ => exact ⟨jz_c22, jz_m22⟩
  | 23, _ => exact ⟨jz_c23, jz_m23⟩
  | 24, _ => exact ⟨jz_c24, jz_m24⟩
  | 25, _ => exact ⟨jz_c25, jz_m25⟩
  | 26, _ => exact ⟨jz_c26, jz_m26⟩
  | 27, _ => exact ⟨jz_c27, jz_m27⟩
  | 28, _ => exact ⟨jz_c28, jz_m28⟩
  | 29, _ => exact ⟨jz_c29, jz_m29⟩
  | 30, _ => exact ⟨jz_c30, jz_m30⟩
  | 31, _ => exact ⟨jz_c31, jz_m31⟩
  | 32, _ => exact ⟨jz_c32, jz_m32⟩
  | 33, _ => exact ⟨jz_c33, jz_m33⟩
  | 34, _ => exact ⟨jz_c34, jz_m34⟩
  | 35, _ => exact ⟨jz_c35, jz_m35⟩
  | 36, _ => exact ⟨jz_c36, jz_m36⟩
  | 37, _ => exact ⟨jz_c37, jz_m37⟩
  | 38, _ => exact ⟨jz_c38, jz_m38⟩
  | 39, _ => exact ⟨jz_c39, jz_m39⟩
  | 40, _ => exact ⟨jz_c40, jz_m40⟩
  | 41, _ => exact ⟨jz_c41, jz_m41⟩
  | 42, _ => exact ⟨jz_c42, jz_m42⟩
  | 43, _ => exact ⟨jz_c43, jz_m43⟩
  | 44, _ => exact ⟨jz_c44, jz_m44⟩
  | 45, _ => exact ⟨jz_c45, jz_m45⟩
  | 46, _ => exact ⟨jz_c46, jz_m46⟩
  | 47, _ => exact ⟨jz_c47, jz_m47⟩
  | 48, _ => exact ⟨jz_c48, jz_m48⟩
  | 49, _ => exact ⟨jz_c49, jz_m49⟩
  | 50, _ => exact ⟨jz_c50, jz_m50⟩
  | 51, _ => exact ⟨jz_c51, jz_m51⟩
  | 52, _ => exact ⟨jz_c52, jz_m52⟩
  | 53, _ => exact ⟨jz_c53, jz_m53⟩
  | 54, _ => exact ⟨jz_c54, jz_m54⟩
  | 55, _ => exact ⟨jz_c55, jz_m55⟩
  | 56, _ => exact ⟨jz_c56, jz_m56⟩
  | 57, _ => exact ⟨jz_c57, jz_m57⟩
  | 58, _ => exact ⟨jz_c58, jz_m58⟩
  | 59, _ => exact ⟨jz_c59, jz_m59⟩
  | 60, _ => exact ⟨jz_c60, jz_m60⟩
  | 61, _ => exact ⟨jz_c61, jz_m61⟩
  | 62, _ => exact ⟨jz_c62, jz_m62⟩
  | 63, _ => exact ⟨jz_c63, jz_m63⟩
  | 64, _ => exact ⟨jz_c64, jz_m64⟩
  | 65, _ => exact ⟨jz_c65, jz_m65⟩
  | 66, _ => exact ⟨jz_c66, jz_m66⟩
  | 67, _ => exact ⟨jz_c67, jz_m67⟩
  | 68, _ => exact ⟨jz_c68, jz_m68⟩
  | 69, _ => exact ⟨jz_c69, jz_m69⟩
  | 70, _ => exact ⟨jz_c70, jz_m70⟩
  | 71, _ => exact ⟨jz_c71, jz_m71⟩
  | 72, _ => exact ⟨jz_c72, jz_m72⟩
  | 73, _ => exact ⟨jz_c73, jz_m73⟩
  | 74, _ => exact ⟨jz_c74, jz_m74⟩
  | 75, _ => exact ⟨jz_c75, jz_m75⟩
  | 76, _ => exact ⟨jz_c76, jz_m76⟩
  | 77, _ => exact ⟨jz_c77, jz_m77⟩
  | 78, _ => exact ⟨jz_c78, jz_m78⟩
  | 79, _ => exact ⟨jz_c79, jz_m79⟩
  | 80, _ => exact ⟨jz_c80, jz_m80⟩
  | 81, _ => exact ⟨jz_c81, jz_m81⟩
  | 82, _ => exact ⟨jz_c82, jz_m82⟩
  | 83, _ => exact ⟨jz_c83, jz_m83⟩
  | 84, _ => exact ⟨jz_c84, jz_m84⟩
  | 85, _ => exact ⟨jz_c85, jz_m85⟩
  | 86, _ => exact ⟨jz_c86, jz_m86⟩
  | 87, _ => exact ⟨jz_c87, jz_m87⟩
  | 88, _ => exact ⟨jz_c88, jz_m88⟩
  | 89, _ => exact ⟨jz_c89, jz_m89⟩
  | 90, _ => exact ⟨jz_c90, jz_m90⟩
  | 91, _ => exact ⟨jz_c91, jz_m91⟩
  | 92, _ => exact ⟨jz_c92, jz_m92⟩
  | 93, _ => exact ⟨jz_c93, jz_m93⟩
  | 94, _ => exact ⟨jz_c94, jz_m94⟩
  | 95, _ => exact ⟨jz_c95, jz_m95⟩
  | 96, _ => exact ⟨jz_c96, jz_m96⟩
  | 97, _ => exact ⟨jz_c97, jz_m97⟩
  | 98, _ => exact ⟨jz_c98, jz_m98⟩
  | 99, _ => exact ⟨jz_c99, jz_m99⟩
  | 100, _ => exact ⟨jz_c100, jz_m100⟩
  | 101, _ => exact ⟨jz_c101, jz_m101⟩
  | 102, _ => exact ⟨jz_c102, jz_m102⟩
  | 103, _ => exact ⟨jz_c103, jz_m103⟩
  | 104, _ => exact ⟨jz_c104, jz_m104⟩
  | 105, _ => exact ⟨jz_c105, jz_m105⟩
  | 106, _ => exact ⟨jz_c106, jz_m106⟩
  | 107, _ => exact ⟨jz_c107, jz_m107⟩
  | 108, _ => exact ⟨jz_c108, jz_m108⟩
  | 109, _ => exact ⟨jz_c109, jz_m109⟩
  | 110, _ => exact ⟨jz_c110, jz_m110⟩
  | 111, _ => exact ⟨jz_c111, jz_m111⟩
  | n + 112, h => exact absurd h (Nat.not_lt.mpr (Nat.le_add_left 112 n))
theorem jz_o1 : ∀ w ∈ jx_cl.flatMap (fun c => u_ws c.1 c.2.1 c.2.2), w ∈ lw_tbl := by decide +kernel
theorem jz_o2 : ∀ w ∈ jx_fdl.flatMap jx_fw, w ∈ lw_tbl := by decide +kernel
theorem jz_o3 : ∀ w ∈ jx_sdl.flatMap jx_sw1, w ∈ lw_tbl := by decide +kernel
theorem jz_o4 : ∀ w ∈ jx_mdl.map (fun e => Cond.methodLink (jx_cn e.1) e.2.1 (jx_nm e.2.2)), w ∈ lw_tbl := by decide +kernel
theorem jz_o6 : ∀ w ∈ jx_spl.flatMap jx_spw, w ∈ lw_tbl := by decide +kernel
theorem jz_all : ∀ w ∈ jl_lt, w ∈ lw_tbl := by
  intro w hw
  rcases List.mem_append.mp hw with hw | hw
  · rcases List.mem_append.mp hw with hw | hw
    · rcases List.mem_append.mp hw with hw | hw
      · obtain ⟨κ, hκ, rfl⟩ := List.mem_map.mp hw
        exact (jz_c κ (List.mem_range.mp hκ)).1
      · rcases List.mem_append.mp hw with hw | hw
        · rcases List.mem_append.mp hw with hw | hw
          · rcases List.mem_append.mp hw with hw | hw
            · rcases List.mem_append.mp hw with hw | hw
              · rcases List.mem_append.mp hw with hw | hw
                · exact jz_o1 w hw
                · exact jz_o2 w hw
              · exact jz_o3 w hw
            · exact jz_o4 w hw
          · obtain ⟨κ, hκ, hw⟩ := List.mem_flatMap.mp hw
            exact (jz_c κ (List.mem_range.mp hκ)).2 w hw
        · exact jz_o6 w hw
    · rcases List.mem_append.mp hw with hw | hw
      · exact jz_xw w hw
      · exact jz_lw w hw
  · exact jz_lz w hw
end
section
/-! The heap behind the constructors. -/
def h00 : jxH := fun k _ j => if k = 23 then nI (gf_pw j) else if k = 13 then -nI 2 else if k = 29 then -nI 2 else nI 0
theorem h00_0 {k : Nat} (h1 : k ≠ 23) (h2 : k ≠ 13) (h3 : k ≠ 29) (i j : Nat) : h00 k i j = nI 0 := by
  unfold h00
  rw [if_neg h1, if_neg h2, if_neg h3]
theorem REL_0 : REL h00 := by
  have Z : ∀ k, k ≠ 23 → k ≠ 13 → k ≠ 29 → ∀ i j, h00 k i j = nI 0 := fun k h1 h2 h3 i j => h00_0 h1 h2 h3 i j
  refine ⟨0, fun _ => 0, 0, fun _ _ _ => false, 0, 0, 0, fun _ => false, fun _ _ => 0, 0, ?_, ?_, ?_, ?_, ?_, ?_, ?_, ?_⟩
  · exact ⟨rfl, rfl, by decide, fun j _ => ⟨rfl, Nat.succ_pos 255⟩, fun j _ => ⟨rfl, Nat.succ_pos 255⟩⟩
  · exact ⟨rfl, rfl, by decide, fun p _ y _ => ⟨0, by decide, rfl, fun x _ => Nat.zero_testBit x⟩, fun p _ x y _ _ => rfl⟩
  · exact fun r _ => rfl
  · exact ⟨rfl, rfl, rfl, rfl, rfl, rfl, fun _ _ => rfl, fun _ _ => rfl⟩
  · exact ⟨by decide, by decide, fun _ _ _ => rfl, fun z => absurd z (Nat.lt_irrefl _)⟩
  · exact ⟨fun p _ j _ => ⟨rfl, Nat.succ_pos 15⟩, fun p _ m _ => ⟨rfl, Nat.succ_pos 15⟩⟩
  · exact ⟨rfl, rfl, by decide, fun i hi => absurd hi (Nat.not_lt_zero _)⟩
  · exact ⟨fun j _ => ⟨rfl, gf_pw_lt j⟩, ⟨fun _ => 0, fun j _ => ⟨rfl, Nat.succ_pos 15⟩⟩, ⟨fun _ => 0, fun j _ => ⟨rfl, Nat.succ_pos 15⟩⟩⟩
end
section
/-! The start's facts. -/
theorem ja_ZU {args : Array Value} {s : State} (hts : ∀ w ∈ lw_tbl, w.before args s = true) (hgv : (Jvm.Cond.and given_1 narrow_1).before args s = true) : vx_Zq Bundle.tN "UNASSIGNED_STACK" Bundle.steD (fun q => s.heap.size ≤ q) s s.heap := by
  have hg := flat_of_before _ hgv
  refine vx_Zqof (args := args) ?_ ?_ ?_ (fun a h1 h2 => absurd h1 (Nat.not_lt.mpr h2))
  · first | exact hts _ (by decide +kernel) | exact hg _ (by decide +kernel)
  · first | exact hts _ (by decide +kernel) | exact hg _ (by decide +kernel)
  · first | exact hts _ (by decide +kernel) | exact hg _ (by decide +kernel)
theorem ja_ZS {args : Array Value} {s : State} (hts : ∀ w ∈ lw_tbl, w.before args s = true) (hgv : (Jvm.Cond.and given_1 narrow_1).before args s = true) : vx_Zq Bundle.tN "SUPPRESSED_SENTINEL" Bundle.listD (fun q => s.heap.size ≤ q) s s.heap := by
  have hg := flat_of_before _ hgv
  refine vx_Zqof (args := args) ?_ ?_ ?_ (fun a h1 h2 => absurd h1 (Nat.not_lt.mpr h2))
  · first | exact hts _ (by decide +kernel) | exact hg _ (by decide +kernel)
  · first | exact hts _ (by decide +kernel) | exact hg _ (by decide +kernel)
  · first | exact hts _ (by decide +kernel) | exact hg _ (by decide +kernel)
theorem ja_N {args : Array Value} {s : State} (hgv : (Jvm.Cond.and given_1 narrow_1).before args s = true) : va_Nc (jx_xr 1).2.2 (jx_xr 0).2.2 s := va_Nc.of (args := args) (flat_of_before _ hgv _ (by decide +kernel))
theorem ja_C {args : Array Value} {s : State} (hts : ∀ w ∈ lw_tbl, w.before args s = true) : ∀ x, x < 3 → va_Nw (.castable (jx_xr x).2.2 (jx_xr x).2.2) s := by
  intro x hx
  have h : (Cond.castable (jx_xr x).2.2 (jx_xr x).2.2).before args s = true := by
    rcases (show x = 0 ∨ x = 1 ∨ x = 2 by omega) with rfl | rfl | rfl
    · exact hts _ (by decide +kernel)
    · exact hts _ (by decide +kernel)
    · exact hts _ (by decide +kernel)
  exact va_tabs rfl rfl h
theorem ja_D {args : Array Value} {s : State} (hts : ∀ w ∈ lw_tbl, w.before args s = true) : ∀ y ∈ jx_xd, va_Nw (.declares y) s := by
  intro y hy
  have h : (Cond.declares y).before args s = true := by
    simp only [jx_xd, List.mem_cons, List.not_mem_nil, or_false] at hy
    rcases hy with rfl | rfl | rfl
    · exact hts _ (by decide +kernel)
    · exact hts _ (by decide +kernel)
    · exact hts _ (by decide +kernel)
  exact va_tabs rfl rfl h
theorem ja_ref {own cls : String} {k : Nat} {A : Array Value} {U : State} (h : (Cond.exactly (.string own k) cls).before A U = true) : ∃ a, (Term.string own k).eval A U none [] U = some (.ref a) := by
  simp only [Cond.before, Cond.holds, Cond.value] at h
  cases he : (Term.string own k).eval A U none [] U with
  | none => rw [he] at h; simp at h
  | some v =>
    rw [he] at h
    cases v <;> first | exact ⟨_, rfl⟩ | (exfalso; revert h; cases U.vm.findClass cls <;> simp)
theorem ja_R {args : Array Value} {s : State} (hts : ∀ w ∈ lw_tbl, w.before args s = true) (hgv : (Jvm.Cond.and given_1 narrow_1).before args s = true) : ∀ q ∈ jx_sl, ∃ sa, vk_R "DotVault" q.1 q.2 sa s := by
  have hg := flat_of_before _ hgv
  intro q hq
  have h1 : (Cond.stringRef "DotVault" q.1 q.2).before args s = true ∧ (Cond.exactly (.string "DotVault" q.1) "java/lang/String").before args s = true := by
    simp only [jx_sl, List.mem_cons, List.not_mem_nil, or_false] at hq
    rcases hq with rfl | rfl | rfl | rfl | rfl | rfl | rfl | rfl | rfl | rfl <;> exact ⟨hts _ (by decide +kernel), hg _ (by decide +kernel)⟩
  obtain ⟨a, ha⟩ := ja_ref h1.2
  exact ⟨a, vk_R.of (A := args) h1.1 ha⟩
theorem ja_XS {args : Array Value} {s : State} (hts : ∀ w ∈ lw_tbl, w.before args s = true) (hgv : (Jvm.Cond.and given_1 narrow_1).before args s = true) : jx_XS (fun q => s.heap.size ≤ q) s s.heap := ⟨ja_ZU hts hgv, ja_ZS hts hgv, ja_R hts hgv, ja_C hts, ja_D hts, ja_N hgv⟩
end
section
/-! The static tables at the start. -/
theorem ja_t {args : Array Value} {s : State} {C n : String} {vs : List Nat} {A : Nat → Prop} (hN : vs.length < 2 ^ 31) (hl : (Cond.laysStatic C n "[I").before args s = true) (hini : (Cond.initialized C).before args s = true) (harr : (Cond.arrayOf (.static C n "[I") .int).before args s = true) (hlen : (Cond.eq (.length (.static C n "[I")) (.int (Int32.ofNat vs.length))).before args s = true) (hel : ∀ j : Nat, j < vs.length → (Cond.eq (.elem (.static C n "[I") (.int (Int32.ofNat j))) (.int (nI (vs.getD j 0)))).before args s = true) (hA : ∀ a : Nat, a < s.heap.size → ¬ A a) : ∃ t : Nat, va_Z C n "[I" (.ref t) A s s.heap ∧ va_T .int t vs.length (fun j => .int (nI (vs.getD j 0))) A s s.heap := by
  obtain ⟨t, h1, h2⟩ := va_Tof (f := fun j => .int (nI (vs.getD j 0))) hN harr (va_eqt hlen) (fun j hj => va_eqt (hel j hj)) hA
  exact ⟨t, va_Zof hl hini h1 hA, h2⟩
theorem ja_D4 {args : Array Value} {s : State} (hts : ∀ w ∈ lw_tbl, w.before args s = true) (hgv : (Jvm.Cond.and given_1 narrow_1).before args s = true) : ∃ t : Nat, va_Z "DotVault$Row" "DIVISOR" "[I" (.ref t) (fun q => s.heap.size ≤ q) s s.heap ∧ va_T .int t [7, 8, 12, 13].length (fun j => .int (nI ([7, 8, 12, 13].getD j 0))) (fun q => s.heap.size ≤ q) s s.heap := by
  have hg := flat_of_before _ hgv
  refine ja_t (args := args) (by decide) (hts _ (by decide +kernel)) (hts _ (by decide +kernel)) (hg _ (by decide +kernel)) (hg _ (by decide +kernel)) (fun j hj => ?_) (fun a h1 h2 => absurd h1 (Nat.not_lt.mpr h2))
  have hj4 : j < 4 := hj
  rcases (show j = 0 ∨ j = 1 ∨ j = 2 ∨ j = 3 by omega) with rfl | rfl | rfl | rfl <;> exact hg _ (by decide +kernel)
theorem ja_D15 {args : Array Value} {s : State} (hts : ∀ w ∈ lw_tbl, w.before args s = true) (hgv : (Jvm.Cond.and given_1 narrow_1).before args s = true) : ∃ t : Nat, va_Z "DotVault$Symbols" "POWERS" "[I" (.ref t) (fun q => s.heap.size ≤ q) s s.heap ∧ va_T .int t [1, 2, 4, 8, 3, 6, 12, 11, 5, 10, 7, 14, 15, 13, 9].length (fun j => .int (nI ([1, 2, 4, 8, 3, 6, 12, 11, 5, 10, 7, 14, 15, 13, 9].getD j 0))) (fun q => s.heap.size ≤ q) s s.heap := by
  have hg := flat_of_before _ hgv
  refine ja_t (args := args) (by decide) (hts _ (by decide +kernel)) (hts _ (by decide +kernel)) (hg _ (by decide +kernel)) (hg _ (by decide +kernel)) (fun j hj => ?_) (fun a h1 h2 => absurd h1 (Nat.not_lt.mpr h2))
  have hj4 : j < 15 := hj
  rcases (show j = 0 ∨ j = 1 ∨ j = 2 ∨ j = 3 ∨ j = 4 ∨ j = 5 ∨ j = 6 ∨ j = 7 ∨ j = 8 ∨ j = 9 ∨ j = 10 ∨ j = 11 ∨ j = 12 ∨ j = 13 ∨ j = 14 by omega) with rfl | rfl | rfl | rfl | rfl | rfl | rfl | rfl | rfl | rfl | rfl | rfl | rfl | rfl | rfl <;> exact hg _ (by decide +kernel)
theorem ja_D16 {args : Array Value} {s : State} (hts : ∀ w ∈ lw_tbl, w.before args s = true) (hgv : (Jvm.Cond.and given_1 narrow_1).before args s = true) : ∃ t : Nat, va_Z "DotVault$Symbols" "EXPONENTS" "[I" (.ref t) (fun q => s.heap.size ≤ q) s s.heap ∧ va_T .int t [0, 0, 1, 4, 2, 8, 5, 10, 3, 14, 9, 7, 6, 13, 11, 12].length (fun j => .int (nI ([0, 0, 1, 4, 2, 8, 5, 10, 3, 14, 9, 7, 6, 13, 11, 12].getD j 0))) (fun q => s.heap.size ≤ q) s s.heap := by
  have hg := flat_of_before _ hgv
  refine ja_t (args := args) (by decide) (hts _ (by decide +kernel)) (hts _ (by decide +kernel)) (hg _ (by decide +kernel)) (hg _ (by decide +kernel)) (fun j hj => ?_) (fun a h1 h2 => absurd h1 (Nat.not_lt.mpr h2))
  have hj4 : j < 16 := hj
  rcases (show j = 0 ∨ j = 1 ∨ j = 2 ∨ j = 3 ∨ j = 4 ∨ j = 5 ∨ j = 6 ∨ j = 7 ∨ j = 8 ∨ j = 9 ∨ j = 10 ∨ j = 11 ∨ j = 12 ∨ j = 13 ∨ j = 14 ∨ j = 15 by omega) with rfl | rfl | rfl | rfl | rfl | rfl | rfl | rfl | rfl | rfl | rfl | rfl | rfl | rfl | rfl | rfl <;> exact hg _ (by decide +kernel)
/-- the three tables, at addresses of the start's heap -/
theorem ja_SF {args : Array Value} {s : State} (hts : ∀ w ∈ lw_tbl, w.before args s = true) (hgv : (Jvm.Cond.and given_1 narrow_1).before args s = true) : ∃ a40 a41 a42 : Nat, ∀ G : jxG, G.2.2 40 0 = a40 → G.2.2 41 0 = a41 → G.2.2 42 0 = a42 → jx_SF G (fun q => s.heap.size ≤ q) s s.heap := by
  obtain ⟨a40, p1, p2⟩ := ja_D15 hts hgv
  obtain ⟨a41, x1, x2⟩ := ja_D16 hts hgv
  obtain ⟨a42, d1, d2⟩ := ja_D4 hts hgv
  refine ⟨a40, a41, a42, fun G h40 h41 h42 k q hk => ?_⟩
  by_cases e40 : k = 40
  · subst e40
    cases hk
    rw [h40]
    exact ⟨p1, p2⟩
  by_cases e41 : k = 41
  · subst e41
    cases hk
    rw [h41]
    exact ⟨x1, x2⟩
  by_cases e42 : k = 42
  · subst e42
    cases hk
    rw [h42]
    exact ⟨d1, d2⟩
  exfalso
  have hn : ∀ k, k < 60 → k ≠ 40 → k ≠ 41 → k ≠ 42 → jx_tv k = none := by decide +kernel
  by_cases hlt : k < 60
  · rw [hn k hlt e40 e41 e42] at hk
    cases hk
  · rw [(jx_big hlt).2.2.2.1] at hk
    cases hk
end
section
/-! Constructors: their words, the arrays' classes, the rows that a constructor is made of. -/
def jn_y (C : String) : MethodName := ⟨C, "<init>", "()V"⟩
abbrev jn_pr : MethodName := ⟨"DotVaultModel", "product", "(II)I"⟩
def jn_w0 : List Cond := [
  .methodLink "DotVault" 3 objectInit, .methodLink "DotVault$Sheet" 3 objectInit, .methodLink "DotVault$Row" 3 objectInit, .methodLink "DotVault$Column" 3 objectInit, .methodLink "DotVault$Scan" 3 objectInit, .methodLink "DotVault$Reader" 3 objectInit, .methodLink "DotVaultModel" 1 objectInit,
  .instanceMethod objectInit, .code objectInit ⟨#[0xb1]⟩ 1 none, .arrayClass .int, .arrayClass .boolean,
  .initialized "DotVault", .initialized "DotVault$Sheet", .initialized "DotVault$Row", .initialized "DotVault$Column", .initialized "DotVault$Scan", .initialized "DotVault$Reader", .initialized "DotVaultModel",
  .instantiable "DotVault" 9, .instantiable "DotVault$Sheet" 1, .instantiable "DotVault$Row" 2, .instantiable "DotVault$Column" 1, .instantiable "DotVault$Scan" 3, .instantiable "DotVault$Reader" 8, .instantiable "DotVaultModel" 19,
  .classLink "DotVault" 17 "DotVault$Sheet", .classLink "DotVault" 29 "DotVault$Row", .classLink "DotVault" 36 "DotVault$Column", .classLink "DotVault" 43 "DotVault$Scan", .classLink "DotVault" 50 "DotVault$Reader", .classLink "DotVault$Scan" 18 "DotVault$Row", .classLink "DotVault$Reader" 37 "DotVault$Column", .classLink "DotVault$Reader" 9 "[[I",
  .instanceMethod (jn_y "DotVault$Sheet"), .instanceMethod (jn_y "DotVault$Row"), .instanceMethod (jn_y "DotVault$Column"), .instanceMethod (jn_y "DotVault$Scan"), .instanceMethod (jn_y "DotVault$Reader"),
  .code (jn_y "DotVault$Sheet") prog_6_method_1_code 1 none, .code (jn_y "DotVault$Row") prog_4_method_1_code 1 none, .code (jn_y "DotVault$Column") prog_2_method_1_code 1 none, .code (jn_y "DotVault$Scan") prog_5_method_1_code 1 none, .code (jn_y "DotVault$Reader") prog_3_method_1_code 1 none,
  .code (jn_y "DotVault") prog_1_method_1_code 2 none, .code (jn_y "DotVaultModel") prog_9_method_1_code 3 none, .instanceMethod (jn_y "DotVault"), .instanceMethod (jn_y "DotVaultModel"),
  .methodLink "DotVaultModel" 47 jn_pr, .instanceMethod jn_pr, .selects "DotVaultModel" jn_pr jn_pr, .code jn_pr prog_9_method_3_code 5 (some .int),
  .fieldLink "DotVault" 9 "DotVault" "document" "[I", .fieldLink "DotVault" 13 "DotVault" "length" "I", .fieldLink "DotVault" 19 "DotVault" "sheets" "[LDotVault$Sheet;", .fieldLink "DotVault" 23 "DotVault" "printed" "I", .fieldLink "DotVault" 26 "DotVault" "data" "[I", .fieldLink "DotVault" 32 "DotVault" "word" "LDotVault$Row;", .fieldLink "DotVault" 39 "DotVault" "column" "LDotVault$Column;", .fieldLink "DotVault" 46 "DotVault" "scan" "LDotVault$Scan;", .fieldLink "DotVault" 53 "DotVault" "reader" "LDotVault$Reader;",
  .fieldLink "DotVault$Sheet" 9 "DotVault$Sheet" "lines" "[I", .fieldLink "DotVault$Row" 9 "DotVault$Row" "symbols" "[I", .fieldLink "DotVault$Row" 15 "DotVault$Row" "sums" "[I", .fieldLink "DotVault$Column" 9 "DotVault$Column" "symbols" "[I", .fieldLink "DotVault$Scan" 9 "DotVault$Scan" "data" "[I", .fieldLink "DotVault$Scan" 15 "DotVault$Scan" "rowErrors" "[I", .fieldLink "DotVault$Scan" 21 "DotVault$Scan" "row" "LDotVault$Row;",
  .fieldLink "DotVault$Reader" 11 "DotVault$Reader" "payloads" "[[I", .fieldLink "DotVault$Reader" 16 "DotVault$Reader" "isKept" "[Z", .fieldLink "DotVault$Reader" 20 "DotVault$Reader" "kept" "I", .fieldLink "DotVault$Reader" 24 "DotVault$Reader" "needed" "I", .fieldLink "DotVault$Reader" 27 "DotVault$Reader" "length" "I", .fieldLink "DotVault$Reader" 30 "DotVault$Reader" "rebuilt" "[I", .fieldLink "DotVault$Reader" 34 "DotVault$Reader" "rebuiltLength" "I", .fieldLink "DotVault$Reader" 40 "DotVault$Reader" "column" "LDotVault$Column;",
  .fieldLink "DotVaultModel" 7 "DotVaultModel" "document" "[I", .fieldLink "DotVaultModel" 13 "DotVaultModel" "dots" "[Z", .fieldLink "DotVaultModel" 17 "DotVaultModel" "power" "[I", .fieldLink "DotVaultModel" 20 "DotVaultModel" "seen" "[Z", .fieldLink "DotVaultModel" 23 "DotVaultModel" "other" "[Z", .fieldLink "DotVaultModel" 26 "DotVaultModel" "row" "[I", .fieldLink "DotVaultModel" 29 "DotVaultModel" "sums" "[I", .fieldLink "DotVaultModel" 32 "DotVaultModel" "data" "[I", .fieldLink "DotVaultModel" 35 "DotVaultModel" "errors" "[I", .fieldLink "DotVaultModel" 38 "DotVaultModel" "has" "[Z", .fieldLink "DotVaultModel" 41 "DotVaultModel" "payloads" "[I", .fieldLink "DotVaultModel" 44 "DotVaultModel" "outBytes" "[I"]
def jn_w1 : List Cond := jx_cl.flatMap (fun c => u_ws c.1 c.2.1 c.2.2)
def jn_w : List Cond := jn_w0 ++ jn_w1
theorem jn_g0 : jn_w0.all goodWord = true := by decide +kernel
theorem jn_g1 : jn_w1.all goodWord = true := by decide +kernel
theorem jn_good : ∀ w ∈ jn_w, (w.onTables && w.keeps) = true ∨ ∃ ty, w = .arrayClass ty := by
  intro w hw
  rcases List.mem_append.mp hw with h | h
  · exact good_of_word (List.all_eq_true.mp jn_g0 w h)
  · exact good_of_word (List.all_eq_true.mp jn_g1 w h)
theorem jn_gi {w1 : Cond} (h : w1 ∈ jn_w) : GoodIn jn_w (w1 :: jn_w) := by
  intro w hw
  rcases List.mem_cons.mp hw with rfl | hw
  · exact ⟨h, jn_good _ h⟩
  · exact ⟨hw, jn_good _ hw⟩
theorem jn_uin {ci N : Nat} {C : String} {T : u_T} (h : jx_cl[ci]? = some (C, T, N)) : ∀ w ∈ u_ws C T N, w ∈ jn_w := fun _ hw => List.mem_append_right _ (List.mem_flatMap.mpr ⟨_, List.mem_of_getElem? h, hw⟩)
theorem jn_m (i : Nat) {w : Cond} (h : jn_w0[i]? = some w) : w ∈ jn_w := List.mem_append_left _ (List.mem_of_getElem? h)
-- what the tables say beyond the good words
def jn_nl : List (String × Nat × String) := [("DotVault", 31, "DotVault$Row"), ("DotVault", 38, "DotVault$Column"), ("DotVault", 45, "DotVault$Scan"), ("DotVault", 52, "DotVault$Reader"), ("DotVault", 57, "DotVault$Sheet"), ("DotVault$Scan", 20, "DotVault$Row"), ("DotVault$Reader", 39, "DotVault$Column")]
def jn_nw (q : String × Nat × String) : Cond := .methodLinkNest q.1 q.2.1 (jn_y q.2.2) "DotVault"
def jn_AA (U : State) : Prop := (Cond.arrayOver (.array .int)).before #[] U = true
theorem jn_AA_spec {U : State} (h : jn_AA U) : ∃ comp c k, U.vm.findClass (FieldType.array .int).toString = some comp ∧ (U.vm.classes.findIdx? fun (x : Class) => match x.kind with | .array component _ => component == comp | _ => false) = some c ∧ U.vm.classes[c]? = some k ∧ k.kind = .array comp (.array .int) ∧ U.vm.findClass ("[" ++ (FieldType.array .int).toString) = some c := by
  unfold jn_AA at h
  simp only [Cond.before, Cond.holds, Cond.value, beq_iff_eq] at h
  cases hc : U.vm.findClass (FieldType.array .int).toString with
  | none => simp [hc] at h
  | some comp =>
    simp only [hc, Option.bind_some, Option.bind_eq_some_iff, Option.map_eq_some_iff] at h
    obtain ⟨c, hi, k, hk, hb⟩ := h
    obtain ⟨hlt, hp, -⟩ := Array.findIdx?_eq_some_iff_getElem.mp hi
    have hke : U.vm.classes[c] = k := by
      have := Array.getElem?_eq_getElem hlt
      rw [this] at hk
      exact Option.some.inj hk
    rw [hke] at hp
    cases hkk : k.kind with
    | array component ty =>
      rw [hkk] at hp hb
      simp only [beq_iff_eq] at hp
      simp only [Bool.and_eq_true, decide_eq_true_eq] at hb
      subst hp
      refine ⟨_, c, k, rfl, hi, hk, ?_, hb.2⟩
      rw [hkk, hb.1]
    | _ => rw [hkk] at hb; simp at hb
theorem jn_AA_moved {u U : State} (hvm : u.vm.Alike U.vm) (h : jn_AA u) : jn_AA U := by
  obtain ⟨comp, c, k, h1, h2, h3, h4, h5⟩ := jn_AA_spec h
  obtain ⟨k', hk', he⟩ := hvm.2.2 _ _ h3
  have hi : (U.vm.classes.findIdx? fun (x : Class) => match x.kind with | .array component _ => component == comp | _ => false) = some c := by
    have hbe : U.vm.bare = u.vm.bare := by first | exact hvm.bare_eq | exact hvm.bare_eq.symm
    have e1 := va_idx_bare U.vm comp
    have e2 := va_idx_bare u.vm comp
    rw [hbe] at e1
    exact (e1.symm.trans e2).trans h2
  have hkind : k'.kind = .array comp (.array .int) := by rw [he]; exact h4
  have f1 : U.vm.findClass (FieldType.array .int).toString = some comp := by rw [hvm.findClass]; exact h1
  have f2 : U.vm.findClass ("[" ++ (FieldType.array .int).toString) = some c := by rw [hvm.findClass]; exact h5
  unfold jn_AA Cond.before Cond.holds
  simp only [Cond.value]
  rw [f1, Option.bind_some]
  refine (congrArg (fun o : Option Nat => (o.bind (fun c => (U.vm.classes[c]?).map fun (k : Class) => match k.kind with | .array _ ty => decide (ty = FieldType.array .int) && decide (U.vm.findClass ("[" ++ (FieldType.array .int).toString) = some c) | _ => false) == some true)) hi).trans ?_
  simp [hk', hkind, f2]
def jn_N (U : State) : Prop := (∀ q ∈ jn_nl, va_Nw (jn_nw q) U) ∧ va_AO "DotVault$Sheet" U ∧ jn_AA U
theorem jn_N_warm {s U : State} (hW : s.WarmedH U.vm) (h : jn_N s) : jn_N U := ⟨fun q hq => va_Nw.warmM hW (h.1 q hq), va_AO.moved hW.alike h.2.1, jn_AA_moved hW.alike h.2.2⟩
theorem jn_N_same {u U : State} (hv : u.vm = U.vm) (h : jn_N u) : jn_N U := ⟨fun q hq => va_Nw.same rfl hv (h.1 q hq), va_AO.moved (by rw [hv]; exact Vm.Alike.refl _) h.2.1, jn_AA_moved (by rw [hv]; exact Vm.Alike.refl _) h.2.2⟩
-- the classes of arrays
abbrev jn_ty (ct : Nat → ClassId) : List (ClassId × FieldType) := [(ct 0, .int), (ct 1, .boolean), (ct 2, .object "DotVault$Sheet"), (ct 3, .array .int), (ct 4, .long)]
theorem jn_RA {U : State} {c1 c2 : ClassId} {ty : FieldType} (h1 : va_RA U c1 ty) (h2 : va_RA U c2 ty) : c1 = c2 := by
  cases ty with
  | object C =>
    obtain ⟨-, -, -, -, -, e1⟩ := h1
    obtain ⟨-, -, -, -, -, e2⟩ := h2
    exact Option.some.inj (e1.symm.trans e2)
  | _ => exact Option.some.inj (h1.symm.trans h2)
theorem jn_last {D : va_G} {cl : List vw_C} {tys : List (ClassId × FieldType)} {U : State} {c1 c2 : ClassId} {ty : FieldType} {t0 : Nat} (hK : va_K D cl (tys ++ [(c2, ty)]) U) (hK0 : va_K D cl tys U) (h : tys[t0]? = some (c1, ty)) : c2 = c1 :=
  jn_RA (hK.2 tys.length (c2, ty) (by simp)).2 (hK0.2 t0 _ h).2
-- two contents of an array that agree below its length
theorem jn_arrV {c : ClassId} {n : Nat} {f g : Nat → Value} (h : ∀ j, j < n → f j = g j) : arrV c n f = arrV c n g := by
  unfold arrV
  congr 1
  apply Array.ext
  · simp
  · intro i h1 h2
    simp only [Array.getElem_ofFn]
    exact h i (by simpa using h1)
theorem jn_swap {D : va_G} {cl : List vw_C} {A : Nat → Prop} {ws : va_W} {H : Heap} {k a n : Nat} {c : ClassId} {f g : Nat → Int32} (hP : va_P D cl ws H) (hD : va_D A ws) (hk : ws[k]? = some (a, .inl (c, n, .inl f))) (h : ∀ j, j < n → f j = g j) : va_P D cl (ws.set k (a, .inl (c, n, .inl g))) H ∧ va_D A (ws.set k (a, .inl (c, n, .inl g))) := by
  refine ⟨hP.set hD hk ?_ (fun _ _ => rfl), hD.set hk⟩
  have h0 : H[a]? = some (vp_cell c (n, .inl f)) := hP k _ hk
  show H[a]? = some (vp_cell c (n, .inl g))
  rw [h0, vp_cell_i, vp_cell_i, jn_arrV (fun j hj => by rw [h j hj])]
theorem jn_swapq {D : va_G} {cl : List vw_C} {A : Nat → Prop} {ws : va_W} {H : Heap} {k a n : Nat} {c : ClassId} {f g : Nat → Option Nat} (hP : va_P D cl ws H) (hD : va_D A ws) (hk : ws[k]? = some (a, .inl (c, n, .inr (.inr (.inr (.inr f)))))) (h : ∀ j, j < n → f j = g j) : va_P D cl (ws.set k (a, .inl (c, n, .inr (.inr (.inr (.inr g)))))) H ∧ va_D A (ws.set k (a, .inl (c, n, .inr (.inr (.inr (.inr g)))))) := by
  refine ⟨hP.set hD hk ?_ (fun _ _ => rfl), hD.set hk⟩
  have h0 : H[a]? = some (vp_cell c (n, .inr (.inr (.inr (.inr f))))) := hP k _ hk
  show H[a]? = some (vp_cell c (n, .inr (.inr (.inr (.inr g)))))
  rw [h0, vp_cell_q, vp_cell_q, jn_arrV (fun j hj => by rw [h j hj])]
-- a frame of a constructor
def jn_X (p : Program) (s : State) (m : MethodId) (args : Array Value) (c : Code) (D : va_G) (ct : Nat → ClassId) (A : Nat → Prop) (own : String) (cc : ByteArray) (nL : Nat) : Prop :=
  p.tables.exec = Jvm.exec ∧ c.code = cc ∧ c.maxLocals = nL ∧ s.vm.findClass own = some m.cls ∧ (∀ w ∈ jn_w, w.before args s = true) ∧ va_K D jx_cl (jn_ty ct) s ∧ (∀ q, s.heap.size ≤ q → A q) ∧ jn_N s
def jn_P (D : va_G) (ct : Nat → ClassId) (ws : va_W) (U : State) : Prop := va_P D jx_cl ws U.heap ∧ va_K D jx_cl (jn_ty ct) U ∧ va_D (fun _ => True) ws ∧ jn_N U
/-- the contract of a constructor without arguments: the object's cell as it was born; behind it the cells that B says -/
def jn_C (l : Launch) (C : String) (b : ByteArray) (mx : Nat) (rm : Room) (ci : Nat) (fs : List Value) (B : va_G → (Nat → ClassId) → Nat → va_W → Prop) : Prop :=
  ∀ (D : va_G) (ct : Nat → ClassId) (h0 sz : Nat), Met l (jn_y C) (.code (jn_y C) b mx none :: jn_w) rm (va_Pc [.ref h0] (fun U => U.heap.size = sz ∧ jn_P D ct [(h0, .inr (ci, fs))] U))
    (va_Qv (fun _ : Unit => True) (fun _ t => ∃ w1, B D ct h0 w1 ∧ va_P D jx_cl w1 t.heap ∧ va_D (va_A [(h0, .inr (ci, fs))] sz) w1) (va_A [(h0, .inr (ci, fs))] sz)) rm.cells rm.slots (va_A [(h0, .inr (ci, fs))] sz)
section JN
variable {p : Program} {l : Launch} {e : Env} {R : Room} {s : State} {m : MethodId} {args : Array Value} {below : List Frame} {meth : Method} {c : Code} {H : Heap} {locs : List Loc} {cells slots : Nat} {Q : State → Prop}
variable {D : va_G} {ct : Nat → ClassId} {A : Nat → Prop} {own : String} {cc : ByteArray} {nL : Nat} {ws : va_W} {ls : Array Slot} {rest : List Value} {pc : Nat}
theorem jn_obj (X : jn_X p s m args c D ct A own cc nL) {index a : Nat} (hw : Cond.methodLink own index objectInit ∈ jn_w) (hl : ls.size = nL) (hd : decode cc pc = .ok (.invokespecial index, 3)) (hR : 1 ≤ R.frames ∧ 12 ≤ R.locals)
    (kk : W p l e R s m args below meth c H locs cells slots Q (F0 m (pc + 3) ls [])) : W p l e R s m args below meth c H locs cells slots Q (F0 m pc ls [.ref a]) := by
  obtain ⟨hx, hb, hml, hown, hts, hK, hA, hN⟩ := X
  exact W.objInit hx hb hown (hts _ hw) (hts _ (jn_m 7 rfl)) (hts _ (jn_m 8 rfl)) rfl (by rw [hml]; exact hl) rfl hd hR.1 hR.2 (W.eq (g2 := F0 m (pc + 3) ls []) rfl kk)
theorem jn_put (X : jn_X p s m args c D ct A own cc nL) (hin : meth.name = "<init>") (hP : va_P D jx_cl ws H) (hD : va_D A ws) (hS : va_S A s.heap H locs) {a index N : Nat} {T : u_T} {ty : FieldType} {v : Value} (q0 ci k : Nat) {fs : List Value} (he : ws[q0]? = some (a, .inr (ci, fs))) (hc : jx_cl[ci]? = some (own, T, N)) (hk : k < N)
    (hw : Cond.fieldLink own index own (T k).2.1 (T k).2.2.1 ∈ jn_w) (hT : (T k).1 = own) (hd : parseFieldDescriptor (T k).2.2.1 = some ty) (hn : narrow ty v = v) (hfit : fits ty v = true) (hl : k < fs.length) (hdg : decode cc pc = .ok (.putfield index, 3))
    (kk : ∀ (H1 : Heap) (locs1 : List Loc), va_P D jx_cl (ws.set q0 (a, .inr (ci, fs.set k v))) H1 → va_D A (ws.set q0 (a, .inr (ci, fs.set k v))) → va_S A s.heap H1 locs1 → W p l e R s m args below meth c H1 locs1 cells slots Q (F0 m (pc + 3) ls rest)) : W p l e R s m args below meth c H locs cells slots Q (F0 m pc ls (v :: .ref a :: rest)) := by
  obtain ⟨hx, hb, hml, hown, hts, hK, hA, hN⟩ := X
  obtain ⟨c1, c2⟩ := jx_cl_ok hc
  cases hf : (T k).2.2.2 with
  | true => exact va_putF hx hb hts (jn_uin hc) _ c1 c2 hown hK hP hD hS q0 he hc k hk (hts _ hw) (fun x hx => by rw [hT] at hx; exact hx) hf hin hT hd hn hfit hl hdg kk
  | false => exact va_put hx hb hts (jn_uin hc) _ c1 c2 hown hK hP hD hS q0 he hc k hk (hts _ hw) (fun x hx => by rw [hT] at hx; exact hx) hf hd hn hfit hl hdg kk
theorem jn_get (X : jn_X p s m args c D ct A own cc nL) (hP : va_P D jx_cl ws H) {a index N : Nat} {T : u_T} {v : Value} (q0 ci k : Nat) {fs : List Value} (he : ws[q0]? = some (a, .inr (ci, fs))) (hc : jx_cl[ci]? = some (own, T, N)) (hk : k < N)
    (hw : Cond.fieldLink own index own (T k).2.1 (T k).2.2.1 ∈ jn_w) (hT : (T k).1 = own) (hv : fs[k]? = some v) (hdg : decode cc pc = .ok (.getfield index, 3))
    (kk : W p l e R s m args below meth c H locs cells slots Q (F0 m (pc + 3) ls (v :: rest))) : W p l e R s m args below meth c H locs cells slots Q (F0 m pc ls (.ref a :: rest)) := by
  obtain ⟨hx, hb, hml, hown, hts, hK, hA, hN⟩ := X
  exact va_get hx hb hts (jn_uin hc) hown hK hP q0 he hc k hk (hts _ hw) (fun x hx => by rw [hT] at hx; exact hx) hv hdg kk
theorem jn_newa (X : jn_X p s m args c D ct A own cc nL) (hP : va_P D jx_cl ws H) (hD : va_D A ws) (hS : va_S A s.heap H locs) {atype : ArrayType} {ty : FieldType} (hw : (Cond.arrayClass (newarray.typeOf atype)).before args s = true) (hty : newarray.typeOf atype = ty) (t0 : Nat) (ht : (jn_ty ct)[t0]? = some (ct t0, ty))
    {n : Int32} {N' : Nat} {a0 : vp_A} (ha : ∀ cA : ClassId, vp_cell cA a0 = arrV cA N' (fun _ => defaultValue ty)) (hn : ¬ n < 0) (hN : n.toNatClampNeg = N') (hbytes : N' * componentBytes ty ≤ 536870912) (hcells : cells + 1 ≤ R.cells) (hslots : slots + N' ≤ R.slots) (hdg : decode cc pc = .ok (.newarray atype, 2))
    (kk : ∀ (q : Nat) (H1 : Heap), va_P D jx_cl (ws ++ [(q, .inl (ct t0, a0))]) H1 → va_D A (ws ++ [(q, .inl (ct t0, a0))]) → va_S A s.heap H1 locs →
      W p l e R s m args below meth c H1 locs (cells + 1) (slots + N') Q (F0 m (pc + 2) ls (.ref q :: rest))) : W p l e R s m args below meth c H locs cells slots Q (F0 m pc ls (.int n :: rest)) := by
  obtain ⟨hx, hb, hml, hown, hts, hK, hA, hNN⟩ := X
  refine va_newa hx hb hw hty hK hP hD hS hA ha hn hN hbytes hcells hslots hdg (fun q cA H1 k1 p1 d1 s1 => ?_)
  have := jn_last k1 hK ht
  subst this
  exact kk q H1 p1 d1 s1
theorem jn_newq (X : jn_X p s m args c D ct A own cc nL) (hP : va_P D jx_cl ws H) (hD : va_D A ws) (hS : va_S A s.heap H locs) {index : Nat} (hw : Cond.classLink own index "DotVault$Sheet" ∈ jn_w)
    {n : Int32} {N' : Nat} (hn : ¬ n < 0) (hN : n.toNatClampNeg = N') (hbytes : N' * 4 ≤ 536870912) (hcells : cells + 1 ≤ R.cells) (hslots : slots + N' ≤ R.slots) (hdg : decode cc pc = .ok (.anewarray index, 3))
    (kk : ∀ (q : Nat) (H1 : Heap), va_P D jx_cl (ws ++ [(q, .inl (ct 2, N', .inr (.inr (.inr (.inr (fun _ => none))))))]) H1 → va_D A (ws ++ [(q, .inl (ct 2, N', .inr (.inr (.inr (.inr (fun _ => none))))))]) → va_S A s.heap H1 locs →
      W p l e R s m args below meth c H1 locs (cells + 1) (slots + N') Q (F0 m (pc + 3) ls (.ref q :: rest))) : W p l e R s m args below meth c H locs cells slots Q (F0 m pc ls (.int n :: rest)) := by
  obtain ⟨hx, hb, hml, hown, hts, hK, hA, hNN⟩ := X
  refine va_newq hx hb hown (hts _ hw) hNN.2.1 hK hP hD hS hA hn hN hbytes hcells hslots hdg (fun q cA H1 k1 p1 d1 s1 => ?_)
  have := jn_last k1 hK (t0 := 2) (c1 := ct 2) rfl
  subst this
  exact kk q H1 p1 d1 s1
theorem jn_range (ws : va_W) (x : Nat × va_E) : (List.range ws.length).map (fun i => (ws ++ [x])[i]?) = ws.map some := by
  apply List.ext_getElem?
  intro i
  rw [List.getElem?_map, List.getElem?_map]
  by_cases h : i < ws.length
  · rw [List.getElem?_range h, Option.map_some, List.getElem?_append_left h, List.getElem?_eq_getElem h, Option.map_some]
  · rw [List.getElem?_eq_none (by simpa using h), List.getElem?_eq_none (by omega)]
    rfl
theorem jn_nd (l : List Nat) (h : l.Nodup) : va_nd l = true := by
  induction l with
  | nil => rfl
  | cons a t ih =>
    rw [List.nodup_cons] at h
    simp [va_nd, ih h.2, h.1]
theorem jn_pre (X : jn_X p s m args c D ct A own cc nL) {ci a : Nat} {fs : List Value} (hP : va_P D jx_cl (ws ++ [(a, .inr (ci, fs))]) H) (hD : va_D A (ws ++ [(a, .inr (ci, fs))])) : PreS s H (va_Pc [.ref a] (fun U => U.heap.size = H.size ∧ jn_P D ct [(a, .inr (ci, fs))] U)) [.ref a] := by
  obtain ⟨hx, hb, hml, hown, hts, hK, hA, hN⟩ := X
  have hat : (ws ++ [(a, (Sum.inr (ci, fs) : va_E))])[ws.length]? = some (a, .inr (ci, fs)) := by simp
  refine ⟨fun a' U g mk q => ?_, fun U hU hW => ⟨rfl, by rw [hU], ?_, va_K.moved hW.alike hK, ?_, jn_N_warm hW hN⟩⟩
  · obtain ⟨q0, q1, qP, qK, qD, qN⟩ := q
    exact ⟨q0, q1, qP, va_K.moved (u := U) (U := U.calling g mk a') (Vm.Alike.refl U.vm) qK, qD, jn_N_same (u := U) (U := U.calling g mk a') rfl qN⟩
  · rw [hU]
    intro k q hk
    have hz : k < 1 := (List.getElem?_eq_some_iff.mp hk).1
    rw [show k = 0 by omega] at hk
    cases hk
    exact hP _ _ hat
  · refine ⟨fun i j x y hi hj _ => ?_, fun _ _ _ => trivial⟩
    have h1 : i < 1 := (List.getElem?_eq_some_iff.mp hi).1
    have h2 : j < 1 := (List.getElem?_eq_some_iff.mp hj).1
    omega
/-- behind a constructor's call -/
theorem jn_back (X : jn_X p s m args c D ct A own cc nL) {ci a mc ms : Nat} {fs : List Value} {B : va_W → Prop} {arr : Array Value} {st0 : List Value} (hP : va_P D jx_cl (ws ++ [(a, .inr (ci, fs))]) H) (hD : va_D A (ws ++ [(a, .inr (ci, fs))])) (hS : va_S A s.heap H locs)
    (hr : va_Run p l e R s m args below meth c H locs cells slots mc ms (F0 m pc ls st0) rest (va_Qv (fun _ : Unit => True) (fun _ t => ∃ w1, B w1 ∧ va_P D jx_cl w1 t.heap ∧ va_D (va_A [(a, .inr (ci, fs))] H.size) w1) (va_A [(a, .inr (ci, fs))] H.size) arr) (va_A [(a, .inr (ci, fs))] H.size))
    (kk : ∀ (w1 : va_W) (H1 : Heap) (locs1 : List Loc), B w1 → va_P D jx_cl (ws ++ w1) H1 → va_D A (ws ++ w1) → va_S A s.heap H1 locs1 → W p l e R s m args below meth c H1 locs1 (cells + mc) (slots + ms) Q (F0 m (pc + 3) ls rest)) : W p l e R s m args below meth c H locs cells slots Q (F0 m pc ls st0) := by
  obtain ⟨hx, hb, hml, hown, hts, hK, hA, hN⟩ := X
  have hC : [ws.length].map (fun i => (ws ++ [(a, (Sum.inr (ci, fs) : va_E))])[i]?) = [(a, (Sum.inr (ci, fs) : va_E))].map some := by simp
  have hF := va_free (wc := [(a, .inr (ci, fs))]) hD hS hA [ws.length] hC
  refine va_callv hr hS (fun q _ h => hF q h) hF (fun u t H1 locs1 ht hvm _ hB hz1 hk1 hS1 => ?_)
  obtain ⟨w1, b1, p1, d1⟩ := hB
  rw [ht] at p1
  obtain ⟨hP2, hD2⟩ := va_join (wr := ws) (w1 := w1) hP hD [ws.length] (List.range ws.length) hC (jn_range ws _) (jn_nd _ List.nodup_range) (fun i hi => by rw [List.mem_range] at hi; simp; omega) hk1 hF p1 d1
  exact kk w1 H1 locs1 b1 hP2 hD2 hS1
/-- new C; dup; C's constructor, a mate of the nest -/
theorem jn_mk (X : jn_X p s m args c D ct A own cc nL) {C : String} {b : ByteArray} {mx ci N i1 i2 : Nat} {T : u_T} {rm : Room} {fs : List Value} {B : va_G → (Nat → ClassId) → Nat → va_W → Prop} (hM : jn_C l C b mx rm ci fs B) (hP : va_P D jx_cl ws H) (hD : va_D A ws) (hS : va_S A s.heap H locs) (hc : jx_cl[ci]? = some (C, T, N))
    (hl : ls.size = nL) (hw : Cond.classLink own i1 C ∈ jn_w ∧ Cond.instantiable C N ∈ jn_w ∧ Cond.initialized C ∈ jn_w ∧ Cond.instanceMethod (jn_y C) ∈ jn_w ∧ Cond.code (jn_y C) b mx none ∈ jn_w) (hq : (own, i2, C) ∈ jn_nl) (hC : C ≠ "java/lang/invoke/MethodHandle" ∧ C ≠ "java/lang/invoke/VarHandle")
    (hfs : ∀ j, j < N → defaultValue ((parseFieldDescriptor (T j).2.2.1).getD .int) = vp_V fs j) (hcat : (rest.map fun v => v.category).sum ≤ 6) (hR : rm.frames + 1 ≤ R.frames ∧ 19 + mx + rm.locals ≤ R.locals) (hf : cells + 1 + rm.cells ≤ R.cells ∧ slots + N + rm.slots ≤ R.slots)
    (hd1 : decode cc pc = .ok (.new i1, 3)) (hd2 : decode cc (pc + 3) = .ok (.dup, 1)) (hd3 : decode cc (pc + 3 + 1) = .ok (.invokespecial i2, 3))
    (kk : ∀ (q : Nat) (w1 : va_W) (H1 : Heap) (locs1 : List Loc), B D ct q w1 → va_P D jx_cl (ws ++ w1) H1 → va_D A (ws ++ w1) → va_S A s.heap H1 locs1 → W p l e R s m args below meth c H1 locs1 (cells + 1 + rm.cells) (slots + N + rm.slots) Q (F0 m (pc + 3 + 1 + 3) ls (.ref q :: rest))) : W p l e R s m args below meth c H locs cells slots Q (F0 m pc ls rest) := by
  have X0 := X
  obtain ⟨hx, hb, hml, hown, hts, hK, hA, hN⟩ := X
  obtain ⟨c1, c2⟩ := jx_cl_ok hc
  obtain ⟨w1, w2, w3, w4, w5⟩ := hw
  refine va_new hx hb hts (jn_uin hc) _ c1 hown (hts _ w1) (hts _ w2) (hts _ w3) hK hP hD hS hA hc hfs (by omega) (by omega) hd1 (fun q H1 p1 d1 s1 => ?_)
  refine lv_dup hx hb hd2 rfl ?_
  have hcn : va_CN R s args own i2 (jn_y C) "DotVault" b mx none (.code (jn_y C) b mx none :: jn_w) rm rm.cells rm.slots 0 := va_cnB 0 hts (jn_gi w5) rfl rfl rfl (hN.1 _ hq) (hts _ w3) ⟨hC.1, hC.2, by show (parseMethodDescriptor "()V").map _ = _; decide +kernel⟩ ⟨hR.1, by omega⟩
  refine jn_back X0 (B := B D ct q) p1 d1 s1 (va_runIN (As := []) (rest := .ref q :: rest) ⟨hx, hb, hml, hown, hts⟩ (hM D ct q H1.size) ⟨hcn, rfl, hts _ w4⟩ (jn_pre X0 p1 d1) rfl rfl hl rfl ?_ hd3 hf) (fun w9 H9 locs9 b9 p9 d9 s9 => kk q w9 H9 locs9 b9 p9 d9 s9)
  exact lv_room (by simp only [List.map_cons, List.sum_cons]; show 1 + _ ≤ 8; omega)
/-- new C; dup; C's constructor, by a plain link -/
theorem jn_mk2 (X : jn_X p s m args c D ct A own cc nL) {C : String} {b : ByteArray} {mx ci N i1 i2 : Nat} {T : u_T} {rm : Room} {fs : List Value} {B : va_G → (Nat → ClassId) → Nat → va_W → Prop} (hM : jn_C l C b mx rm ci fs B) (hP : va_P D jx_cl ws H) (hD : va_D A ws) (hS : va_S A s.heap H locs) (hc : jx_cl[ci]? = some (C, T, N))
    (hl : ls.size = nL) (hw : (Cond.classLink own i1 C).before args s = true ∧ Cond.instantiable C N ∈ jn_w ∧ Cond.initialized C ∈ jn_w ∧ Cond.instanceMethod (jn_y C) ∈ jn_w ∧ Cond.code (jn_y C) b mx none ∈ jn_w) (hq : (Cond.methodLink own i2 (jn_y C)).before args s = true) (hC : C ≠ "java/lang/invoke/MethodHandle" ∧ C ≠ "java/lang/invoke/VarHandle")
    (hfs : ∀ j, j < N → defaultValue ((parseFieldDescriptor (T j).2.2.1).getD .int) = vp_V fs j) (hcat : (rest.map fun v => v.category).sum ≤ 6) (hR : rm.frames + 1 ≤ R.frames ∧ 19 + mx + rm.locals ≤ R.locals) (hf : cells + 1 + rm.cells ≤ R.cells ∧ slots + N + rm.slots ≤ R.slots)
    (hd1 : decode cc pc = .ok (.new i1, 3)) (hd2 : decode cc (pc + 3) = .ok (.dup, 1)) (hd3 : decode cc (pc + 3 + 1) = .ok (.invokespecial i2, 3))
    (kk : ∀ (q : Nat) (w1 : va_W) (H1 : Heap) (locs1 : List Loc), B D ct q w1 → va_P D jx_cl (ws ++ w1) H1 → va_D A (ws ++ w1) → va_S A s.heap H1 locs1 → W p l e R s m args below meth c H1 locs1 (cells + 1 + rm.cells) (slots + N + rm.slots) Q (F0 m (pc + 3 + 1 + 3) ls (.ref q :: rest))) : W p l e R s m args below meth c H locs cells slots Q (F0 m pc ls rest) := by
  have X0 := X
  obtain ⟨hx, hb, hml, hown, hts, hK, hA, hN⟩ := X
  obtain ⟨c1, c2⟩ := jx_cl_ok hc
  obtain ⟨w1, w2, w3, w4, w5⟩ := hw
  refine va_new hx hb hts (jn_uin hc) _ c1 hown w1 (hts _ w2) (hts _ w3) hK hP hD hS hA hc hfs (by omega) (by omega) hd1 (fun q H1 p1 d1 s1 => ?_)
  refine lv_dup hx hb hd2 rfl ?_
  refine jn_back X0 (B := B D ct q) p1 d1 s1 (va_runI (As := []) (rest := .ref q :: rest) ⟨hx, hb, hml, hown, hts⟩ (hM D ct q H1.size) (cwI 0 hts (jn_gi w5) rfl rfl rfl (hts _ w3) hq (hts _ w4) rfl ⟨hC.1, hC.2, by show (parseMethodDescriptor "()V").map _ = _; decide +kernel⟩ ⟨hR.1, by omega⟩) (jn_pre X0 p1 d1) rfl rfl hl rfl ?_ hd3 hf) (fun w9 H9 locs9 b9 p9 d9 s9 => kk q w9 H9 locs9 b9 p9 d9 s9)
  exact lv_room (by simp only [List.map_cons, List.sum_cons]; show 1 + _ ≤ 8; omega)
end JN
set_option maxHeartbeats 1000000 in
/-- a constructor's contract by its walk -/
theorem jn_by {l : Launch} {C : String} {b : ByteArray} {mx : Nat} {rm : Room} {ci : Nat} {fs : List Value} {B : va_G → (Nat → ClassId) → Nat → va_W → Prop} (hmx : 1 ≤ mx) (hpl : plainName C = true)
    (body : ∀ (D : va_G) (ct : Nat → ClassId) (h0 : Nat) (p : Program) (e : Env) (s : State) (m : MethodId) (args : Array Value) (below : List Frame) (meth : Method) (c : Code) (A : Nat → Prop) (Q : State → Prop) (ls : Array Slot), jn_X p s m args c D ct A C b mx → meth.name = "<init>" → lv_has ls mx [(0, .ref h0)] → va_P D jx_cl [(h0, .inr (ci, fs))] s.heap → va_D A [(h0, .inr (ci, fs))] → va_S A s.heap s.heap [] →
      (∀ (H : Heap) (locs : List Loc) (w1 : va_W) (ls : Array Slot) (pc : Nat), B D ct h0 w1 → va_P D jx_cl w1 H → va_D A w1 → va_S A s.heap H locs → decode b pc = .ok (.return_, 1) → W p l e rm s m args below meth c H locs rm.cells rm.slots Q (F0 m pc ls [])) →
      W p l e rm s m args below meth c s.heap [] 0 0 Q (F0 m 0 ls [])) : jn_C l C b mx rm ci fs B := by
  intro D ct h0 sz
  refine Met.ofW (cc := b) (maxL := mx) (ret := none) hpl rfl ?_
  intro p e s m args below meth c s₁ BB hml hv
  obtain ⟨rfl, hsz, hP, hK, hD0, hN⟩ := hv
  subst hsz
  have hD := hD0.self (sz := s.heap.size)
  have hin : meth.name = "<init>" := (name_of_methodNamed BB.named BB.method).1
  have hA : ∀ q, s.heap.size ≤ q → va_A [(h0, .inr (ci, fs))] s.heap.size q := fun q h => Or.inr h
  have X : jn_X p s m [Value.ref h0].toArray c D ct (va_A [(h0, .inr (ci, fs))] s.heap.size) C b mx := ⟨BB.exec, BB.bytes, hml, findClass_of_methodNamed BB.named, fun w hw => atoms_spec (ws := .code (jn_y C) b mx none :: jn_w) BB.pre w (List.mem_cons_of_mem _ hw), hK, hA, hN⟩
  have hr := BB.returns
  have hlocks := BB.notSynchronized
  have hl := lv_entry ([.ref h0]) (n := mx) hmx
  rw [lg_entry_eq]
  generalize (lg_sl ([.ref h0]) ++ List.replicate (mx - (lg_sl ([.ref h0])).length) Slot.unset).toArray = ls at hl ⊢
  refine body D ct h0 p e s m _ below meth c _ _ ls X hin hl hP hD va_S.rf (fun H locs w1 ls pc hB hP1 hD1 hS hd => ?_)
  exact W.vret BB.exec BB.bytes hr (fun t ht hW => ⟨⟨(), rfl, trivial, w1, hB, by rw [ht]; exact hP1, hD1⟩, hS.F ht⟩) hS.2.2 hd
end
