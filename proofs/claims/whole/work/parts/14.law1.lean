def t268_0 : pT := [[some (.new 0, 3, 11, 11, 0), none, none, some (.dup, 1, 0, 0, 0), some (.invokestatic 0, 3, 117, 1, 11), none, none, some (.astore 1, 1, 0, 0, 0), some (.new 0, 3, 12, 74, 0), none, none, some (.dup, 1, 0, 0, 0), some (.invokestatic 0, 3, 185, 1, 12), none, none, some (.astore 2, 1, 0, 0, 0)],
  [some (.iconst 0, 1, 0, 0, 0), some (.istore 3, 1, 0, 0, 0), some (.iload 3, 1, 0, 0, 0), some (.aload 0, 1, 0, 0, 0), some (.fastore, 1, 0, 0, 0), some (.iconst 6, 2, 0, 0, 0), none, some (.isub, 1, 0, 0, 0), some (.if_icmp .gt 0, 3, 1294, 0, 0), none, none, some (.aload 0, 1, 0, 0, 0), some (.iload 3, 1, 0, 0, 0), some (.faload, 1, 0, 0, 0), some (.iconst 63, 2, 0, 0, 0), none],
  [some (.iand, 1, 0, 0, 0), some (.tableswitch 1255 0 35 #[159, 222, 245, 258, 281, 304, 327, 350, 363, 396, 429, 452, 475, 498, 531, 574, 617, 640, 663, 676, 699, 742, 765, 805, 838, 872, 925, 968, 1001, 1034, 1077, 1110, 1143, 1156, 1189, 1232], 159, 0, 0, 0), none, none, none, none, none, none, none, none, none, none, none, none, none, none],
  [none, none, none, none, none, none, none, none, none, none, none, none, none, none, none, none],
  [none, none, none, none, none, none, none, none, none, none, none, none, none, none, none, none],
  [none, none, none, none, none, none, none, none, none, none, none, none, none, none, none, none],
  [none, none, none, none, none, none, none, none, none, none, none, none, none, none, none, none],
  [none, none, none, none, none, none, none, none, none, none, none, none, none, none, none, none],
  [none, none, none, none, none, none, none, none, none, none, none, none, none, none, none, none],
  [none, none, none, none, none, none, none, none, none, none, none, none, none, none, none, none],
  [none, none, none, none, none, none, none, none, none, none, none, none, none, none, none, none],
  [none, none, none, none, none, none, none, none, none, none, none, none, none, none, none, none]]
set_option maxRecDepth 100000 in
theorem k268_0 : pchk 13 3 cL_law 0 t268_0 = true := by decide +kernel
