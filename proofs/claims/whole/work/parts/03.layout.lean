/-! the cells of the world, written by layout.py: an object (its class's number in vwCl, its fields' kinds: 0 int, 1 long, 2 a reference that changes, k + 3 the cell k for good), an array (0 int, 1 byte, 2 boolean, 3 long; its length)
  0 x
  1 x.tape
  2 x.tape.bytes
  3 x.land
  4 x.land.items
  5 x.land.law
  6 x.land.ruleOf
  7 x.draft
  8 x.draft.items
  9 x.draft.law
  10 x.draft.ruleOf
  11 x.rules
  12 x.rules.codes
  13 x.rules.lengths
  14 x.rules.draft
  15 x.rules.stack
  16 x.rules.letters
  17 x.sale
  18 x.sale.order
  19 x.sale.order.who
  20 x.sale.order.score
  21 x.sale.bid
  22 x.replies
  23 x.restful
  24 x.restful.marks
  25 x.restful.gains
  26 x.run
  27 x.run.order
  28 x.run.order.who
  29 x.run.order.score
  30 x.run.ruleOf
  31 x.run.gone
  32 x.run.cameIn
  33 x.run.steps
  34 x.line
  35 x.line.holderBehind
  36 x.line.goes
  37 x.line.holderIfFirst
  38 x.line.goesFirst
  39 x.anew
  40 x.anew.fresh
  41 x.book
  42 x.book.rows
  43 x.book.pairs
  44 x.keptBook
  45 x.keptBook.rows
  46 x.keptBook.pairs
  47 x.keptLaw
  48 x.keptRules
  49 m
  50 m.tape
  51 m.texts
  52 m.textLong
  53 m.letters
  54 m.of
  55 m.ofRead
  56 m.law
  57 m.lawRead
  58 m.ruleOf
  59 m.score
  60 m.isOut
  61 m.gone
  62 m.cameAt
  63 m.goes
  64 m.bid
  65 m.has0
  66 m.isGoing
  67 m.wentAt
  68 m.bidThen
  69 m.book
  70 m.imageBook
  71 m.imageRule
  72 m.imageLaw
  73 out
-/
abbrev aw_lays : List ((Nat × List Nat) ⊕ (Nat × Nat)) := [
  .inl (11, [4, 6, 10, 14, 20, 25, 26, 29, 37, 42, 44, 47, 50, 51, 0]),
  .inl (9, [5, 0, 0]),
  .inr (0, 160),
  .inl (1, [7, 8, 9, 0, 0]),
  .inr (0, 24),
  .inr (0, 5),
  .inr (0, 6),
  .inl (1, [11, 12, 13, 0, 0]),
  .inr (0, 24),
  .inr (0, 5),
  .inr (0, 6),
  .inl (7, [15, 16, 17, 18, 19, 0, 0]),
  .inr (0, 640),
  .inr (0, 4),
  .inr (0, 160),
  .inr (0, 64),
  .inr (0, 6),
  .inl (8, [6, 21, 24, 0, 0, 0, 0, 0]),
  .inl (2, [22, 23, 0]),
  .inr (0, 6),
  .inr (0, 6),
  .inr (0, 6),
  .inl (4, [6, 20, 0, 0, 0, 0, 0, 0, 0]),
  .inl (5, [6, 20, 27, 28, 0, 0, 0, 0]),
  .inr (3, 157),
  .inr (0, 10),
  .inl (3, [6, 14, 30, 33, 34, 35, 36, 0, 0]),
  .inl (2, [31, 32, 0]),
  .inr (0, 6),
  .inr (0, 6),
  .inr (0, 6),
  .inr (0, 6),
  .inr (0, 6),
  .inr (0, 6),
  .inl (10, [6, 38, 39, 40, 41]),
  .inr (0, 64),
  .inr (3, 60),
  .inr (0, 60),
  .inr (2, 60),
  .inl (6, [6, 20, 43, 0, 0]),
  .inr (0, 6),
  .inl (0, [6, 20, 45, 46, 0]),
  .inr (0, 40),
  .inr (0, 60),
  .inl (0, [6, 20, 48, 49, 0]),
  .inr (0, 40),
  .inr (0, 60),
  .inr (0, 5),
  .inr (0, 6),
  .inl (12, [0, 53, 54, 55, 56, 2, 0, 0, 0, 0, 0, 0, 0, 0, 0, 223, 224, 0, 57, 58, 59, 60, 0, 0, 0, 61, 62, 63, 64, 65, 66, 0, 0, 67, 0, 0, 0, 0, 68, 69, 70, 71, 72, 0, 1, 0, 0, 73, 74, 75, 0, 0]),
  .inr (1, 160),
  .inr (1, 640),
  .inr (0, 4),
  .inr (0, 128),
  .inr (0, 24),
  .inr (0, 24),
  .inr (0, 5),
  .inr (0, 5),
  .inr (0, 6),
  .inr (0, 6),
  .inr (2, 6),
  .inr (0, 600),
  .inr (0, 6),
  .inr (0, 6),
  .inr (0, 6),
  .inr (0, 23424),
  .inr (2, 3904),
  .inr (0, 6),
  .inr (0, 6),
  .inr (0, 40),
  .inr (0, 40),
  .inr (0, 6),
  .inr (0, 5),
  .inr (3, 1)]
abbrev aw_N : Nat := 74
def aw_lay (i : Nat) : (Nat × List Nat) ⊕ (Nat × Nat) := aw_lays.getD i (.inr (0, 0))
/-- static arrays: class, name, what they hold; the j-th is called 200 + j -/
abbrev aw_stats : List (String × String × List Int) := [("SecondHas", "STRIVER_LETTERS", [112, 119, 107, 98]), ("SecondHas", "STRIVER_LOWS", [1, 0, 0, 0]), ("SecondHas", "STRIVER_HIGHS", [9, 99, 4, 9]), ("SecondHas", "STRIVER_USUAL", [3, 10, 0, 0]), ("SecondHas", "LAW_LETTERS", [114, 116, 113, 102, 109]), ("SecondHas", "LAW_LOWS", [1, 0, 0, 0, 0]), ("SecondHas", "LAW_HIGHS", [6, 1, 2, 99, 9]), ("SecondHas", "LAW_USUAL", [2, 0, 0, 0, 5]), ("SecondHas$Rules", "LETTERS", [100, 97, 98, 111, 108, 116])]
