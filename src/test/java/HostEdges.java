/** SHEETS and promises 29 to 33: places, sizes and sorts at their ends, and which refusal stands ahead of which. */
final class HostEdges {
    private static final int MIN = Scene.MIN, MAX = Scene.MAX;
    private static final int NONE = -1, BAD = -2;
    private static final int MISSING = -11, OUTSIDE = -12, UNLIKE = -13, TOO_SMALL = -14;

    private HostEdges() {
    }

    /** Sheet 0 of bytes, 1 of shorts, 2 of ints, of so many each; 3 is missing. */
    private static NotTwice sheets(int size) {
        NotTwice x = new NotTwice();
        for (int sort = 0; sort < 3; sort++) {
            x.sheet(sort, sort, size);
        }
        return x;
    }

    /** What a sheet has from item i on, four items: the ages and bits of two who come by it. */
    private static void holds(NotTwice x, int sheet, int sort, int i, int... due) {
        int first = x.count(1);
        Due.is("both come", x.people(sheet, sort, i, 2), 2);
        for (int k = 0; k < 4; k++) {
            Due.is("item " + (i + k), x.one(first + k / 2, 1 + k % 2), due[k]);
        }
    }

    @Says(of = 0, words = "SHEETS 0 .. 3 are rows of numbers, or missing (as all are at first): of sort 0 bytes, 1 shorts, 2 ints.")
    static void sheetsAreFour() {
        Scene.range("sheet", 0, 3, BAD, v -> new NotTwice().sheet(v, 0, 1));
        Scene.range("sheet, missing", 0, 3, BAD, v -> new NotTwice().sheet(v, -1, 1));
        Scene.range("cell", 0, 3, BAD, v -> new NotTwice().cell(v, 0, 0));
        Scene.range("copy, from", 0, 3, BAD, v -> new NotTwice().copy(v, 0, 0, 0, 0));
        Scene.range("copy, to", 0, 3, BAD, v -> new NotTwice().copy(0, 0, v, 0, 0));
        Scene.range("people", 0, 3, BAD, v -> new NotTwice().people(v, 0, 0, 0));
        Scene.range("judge", 0, 3, BAD, v -> new NotTwice().judge(v));
        NotTwice x = new NotTwice();
        for (int sheet = 0; sheet < 4; sheet++) {
            Due.is("missing at first", x.cell(sheet, 0, 0), MISSING);
            Due.is("missing at first", x.copy(sheet, 0, sheet, 0, 0), MISSING);
            Due.is("missing at first", x.people(sheet, 0, 0, 0), MISSING);
            Due.is("missing at first", x.judge(sheet), MISSING);
        }
        for (int sheet = 0; sheet < 4; sheet++) {
            Scene.row(x, sheet, 2, sheet, 2 * sheet);
        }
        for (int sheet = 0; sheet < 4; sheet++) {
            x.people(sheet, 2, 0, 1);
            Due.is("each sheet has its own", x.one(sheet, 1) * 10 + x.one(sheet, 2), 12 * sheet);
        }
    }

    @Says(of = 0, words = "SHEETS 0 .. 3 are rows of numbers, or missing (as all are at first): of sort 0 bytes, 1 shorts, 2 ints.")
    static void sortsAreThree() {
        Scene.range("sheet", -1, 2, BAD, v -> new NotTwice().sheet(0, v, 1));
        Scene.range("people", 0, 2, BAD, v -> sheets(2).people(0, v, 0, 1));
        NotTwice x = sheets(2);
        for (int is = 0; is < 3; is++) {
            for (int as = 0; as < 3; as++) {
                Due.is("taken for another sort", x.people(is, as, 0, 0), is == as ? 0 : UNLIKE);
                Due.is("copied to another sort", x.copy(is, 0, as, 0, 2), is == as ? 2 : UNLIKE);
            }
        }
    }

    @Says(of = 29, words = {"A SHEET becomes a row of n of a sort, all 0, or missing (sort -1: n does not matter): 1."})
    static void sheetIsAll0() {
        for (int sort = 0; sort < 3; sort++) {
            NotTwice x = new NotTwice();
            Due.is("a row", x.sheet(3, sort, 40), 1);
            for (int i = 0; i < 40; i++) {
                x.cell(3, i, 5);
            }
            Due.is("the same again", x.sheet(3, sort, 40), 1);
            holds(x, 3, sort, 0, 0, 0, 0, 0);
            holds(x, 3, sort, 36, 0, 0, 0, 0);
            x.cell(3, 39, 5);
            Due.is("a shorter one", x.sheet(3, sort, 4), 1);
            Due.is("it ends there", x.cell(3, 4, 0), OUTSIDE);
            Due.is("the longest again", x.sheet(3, sort, 40), 1);
            holds(x, 3, sort, 36, 0, 0, 0, 0);
            x.cell(3, 0, 5);
            Due.is("missing", x.sheet(3, NONE, 40), 1);
            Due.is("missing", x.cell(3, 0, 0), MISSING);
            Due.is("there again", x.sheet(3, sort, 4), 1);
            holds(x, 3, sort, 0, 0, 0, 0, 0);
        }
    }

    @Says(of = 29, words = {"A SHEET becomes a row of n of a sort, all 0, or missing (sort -1: n does not matter): 1."})
    static void sheetIsMissingWhateverItsSize() {
        for (int n : new int[] {MIN, -1, 0, 1, 40, 41, MAX}) {
            NotTwice x = sheets(2);
            Due.is("missing, n " + n, x.sheet(0, NONE, n), 1);
            Due.is("missing", x.cell(0, 0, 0), MISSING);
            Due.is("missing once more", x.sheet(0, NONE, n), 1);
            Due.is("others are not", x.cell(1, 0, 0), 1);
            Due.is("no such sheet", x.sheet(4, NONE, n), BAD);
            Due.is("no such sort", x.sheet(1, -2, n), BAD);
        }
    }

    @Says(of = 29, words = "BAD: no such SHEET, sort; n above 40; -14.")
    static void sheetRefused() {
        for (int sort = 0; sort < 3; sort++) {
            NotTwice x = sheets(3);
            Due.is("none", x.sheet(sort, sort, 0), 1);
            Due.is("it has none", x.cell(sort, 0, 0), OUTSIDE);
            Due.is("40", x.sheet(sort, sort, 40), 1);
            Due.is("41", x.sheet(sort, sort, 41), BAD);
            Due.is("far above", x.sheet(sort, sort, MAX), BAD);
            Due.is("below 0", x.sheet(sort, sort, -1), TOO_SMALL);
            Due.is("far below 0", x.sheet(sort, sort, MIN), TOO_SMALL);
            Due.is("it is as it was", x.cell(sort, 39, 0), 1);
            Due.is("no such sheet, below 0", x.sheet(4, sort, -1), BAD);
            Due.is("no such sheet, below 0", x.sheet(-1, sort, -1), BAD);
        }
        NotTwice y = sheets(3);
        Due.is("no such sort, below 0", y.sheet(0, 3, -1), BAD);
        Due.is("no such sort, below 0", y.sheet(0, -2, MIN), BAD);
        Due.is("no such sort", y.sheet(0, MAX, 1), BAD);
        Due.is("no such sort", y.sheet(0, MIN, 1), BAD);
        Due.is("below 0 of one that is missing", y.sheet(3, 0, -1), TOO_SMALL);
        Due.is("it stays missing", y.cell(3, 0, 0), MISSING);
    }

    @Says(of = 30, words = "Item i of a SHEET becomes v (of bytes, shorts its lowest 8, 16 bits): 1.")
    static void cellKeepsTheLowestBits() {
        int[][] bytes = {{256, 0}, {257, 1}, {127, 127}, {-129, 127}, {MIN, 0}, {MIN + 7, 7}, {0x7FFFFF00, 0},
            {-256, 0}, {65536 + 99, 99}};
        for (int[] b : bytes) {
            NotTwice x = sheets(4);
            Due.is("a byte", x.cell(0, 1, b[0]), 1);
            holds(x, 0, 0, 0, 0, b[1], 0, 0);
        }
        int[][] shorts = {{65536, 0}, {65536 + 255, 255}, {255, 255}, {-65536, 0}, {MIN, 0}, {MIN + 200, 200},
            {0x7FFF0000, 0}, {-65536 + 128, 128}};
        for (int[] s : shorts) {
            NotTwice x = sheets(4);
            Due.is("a short", x.cell(1, 1, s[0]), 1);
            holds(x, 1, 1, 0, 0, s[1], 0, 0);
        }
        NotTwice y = sheets(4);
        for (int v : new int[] {256, 65536, 65536 + 5, MIN, MAX, -1}) {
            Due.is("an int", y.cell(2, 1, v), 1);
            Due.is("has all its bits", y.people(2, 2, 0, 1), 0);
        }
        y.cell(2, 1, 255);
        holds(y, 2, 2, 0, 0, 255, 0, 0);
    }

    /** The document's bytes and shorts are taken for Java's, which have a sign. */
    @Says(of = 30, words = "Item i of a SHEET becomes v (of bytes, shorts its lowest 8, 16 bits): 1.")
    static void cellsBelow0() {
        for (int v : new int[] {128, 255, -1, -128, 200}) {
            NotTwice x = sheets(4);
            x.cell(0, 1, v);
            Due.is(v + " in a byte", x.people(0, 0, 0, 1), 0);
        }
        for (int v : new int[] {32768, 65535, -1, -32768, 256, 32767}) {
            NotTwice x = sheets(4);
            x.cell(1, 1, v);
            Due.is(v + " in a short", x.people(1, 1, 0, 1), 0);
        }
    }

    @Says(of = 30, words = "BAD: no such SHEET; -11; -12.")
    static void cellRefused() {
        for (int size : new int[] {0, 1, 40}) {
            for (int sheet = 0; sheet < 3; sheet++) {
                NotTwice x = sheets(size);
                for (int i : new int[] {MIN, -1, size, 40, MAX}) {
                    Due.is("place " + i + " of " + size, x.cell(sheet, i, 1), OUTSIDE);
                    Due.is("place " + i + " of none", x.cell(3, i, 1), MISSING);
                    Due.is("place " + i + " of no sheet", x.cell(4, i, 1), BAD);
                    Due.is("place " + i + " of no sheet", x.cell(-1, i, 1), BAD);
                }
                if (size > 0) {
                    Due.is("the first", x.cell(sheet, 0, 1), 1);
                    Due.is("the last", x.cell(sheet, size - 1, 1), 1);
                }
            }
        }
        NotTwice y = sheets(4);
        y.cell(1, -1, 9);
        y.cell(1, 4, 9);
        holds(y, 0, 0, 0, 0, 0, 0, 0);
        holds(y, 1, 1, 0, 0, 0, 0, 0);
        holds(y, 2, 2, 0, 0, 0, 0, 0);
    }

    @Says(of = 31, words = "n numbers of a SHEET, from item i on, come to another one's item j on (as they were): n.")
    static void copyOverItself() {
        for (int sort = 0; sort < 3; sort++) {
            NotTwice x = new NotTwice();
            Scene.row(x, 0, sort, 1, 2, 3, 4, 5, 6);
            Due.is("up by one", x.copy(0, 0, 0, 1, 5), 5);
            holds(x, 0, sort, 0, 1, 1, 2, 3);
            holds(x, 0, sort, 2, 2, 3, 4, 5);
            Scene.row(x, 0, sort, 1, 2, 3, 4, 5, 6);
            Due.is("down by one", x.copy(0, 1, 0, 0, 5), 5);
            holds(x, 0, sort, 0, 2, 3, 4, 5);
            holds(x, 0, sort, 2, 4, 5, 6, 6);
            NotTwice y = new NotTwice();
            Scene.row(y, 0, sort, 1, 2, 3, 4, 5, 6);
            Due.is("to where it stands", y.copy(0, 0, 0, 0, 6), 6);
            holds(y, 0, sort, 0, 1, 2, 3, 4);
            Due.is("none", y.copy(0, 0, 0, 5, 0), 0);
            holds(y, 0, sort, 2, 3, 4, 5, 6);
        }
    }

    @Says(of = 31, words = "n numbers of a SHEET, from item i on, come to another one's item j on (as they were): n.")
    static void copyOfAllAndOfNone() {
        NotTwice x = new NotTwice();
        x.sheet(0, 1, 40);
        x.sheet(3, 1, 40);
        for (int i = 0; i < 40; i++) {
            x.cell(0, i, i);
        }
        Due.is("all", x.copy(0, 0, 3, 0, 40), 40);
        holds(x, 3, 1, 0, 0, 1, 2, 3);
        holds(x, 3, 1, 36, 36, 37, 38, 39);
        Due.is("the first to the last place", x.copy(0, 0, 3, 39, 1), 1);
        Due.is("the last to the first place", x.copy(0, 39, 3, 0, 1), 1);
        holds(x, 3, 1, 0, 39, 1, 2, 3);
        holds(x, 3, 1, 36, 36, 37, 38, 0);
        Due.is("none, from the end to the end", x.copy(0, 40, 3, 40, 0), 0);
        Due.is("one, from the end", x.copy(0, 40, 3, 0, 1), OUTSIDE);
        NotTwice y = sheets(0);
        y.sheet(3, 0, 0);
        Due.is("none of none", y.copy(0, 0, 3, 0, 0), 0);
        Due.is("one of none", y.copy(0, 0, 3, 0, 1), OUTSIDE);
    }

    @Says(of = 31, words = "BAD: no such SHEET; -11; -13: they are of unlike sorts; -12 (also with n below 0).")
    static void copyRefused() {
        NotTwice x = sheets(6);
        x.sheet(3, 0, 4);
        int[][] wrong = {{-1, 0, 1}, {0, -1, 1}, {6, 0, 1}, {0, 4, 1}, {0, 0, 5}, {0, 0, 7}, {3, 0, 4}, {0, 1, 4}, {7, 0, 0},
            {0, 5, 0}, {-1, 0, 0}, {0, -1, 0}, {0, 0, -1}, {3, 3, -1}, {0, 0, MIN}, {0, 0, MAX}, {MAX, 0, 1}, {0, MAX, 1},
            {MIN, 0, 1}, {0, MIN, 1}, {1, 0, MAX}, {0, 1, MAX}, {MAX, 0, MAX}, {0, MAX, MAX}, {MAX, MAX, MIN},
            {6, 4, -1}};
        for (int[] w : wrong) {
            String what = w[2] + " from " + w[0] + " to " + w[1];
            Due.is(what, x.copy(0, w[0], 3, w[1], w[2]), OUTSIDE);
            Due.is(what + ", of unlike sorts", x.copy(1, w[0], 3, w[1], w[2]), UNLIKE);
            Due.is(what + ", no such sheet", x.copy(4, w[0], 0, w[1], w[2]), BAD);
            Due.is(what + ", to no such sheet", x.copy(0, w[0], -1, w[1], w[2]), BAD);
        }
        Due.is("of unlike sorts, none", x.copy(0, 0, 1, 0, 0), UNLIKE);
        x.sheet(2, -1, 0);
        for (int[] w : wrong) {
            Due.is("from a missing one", x.copy(2, w[0], 0, w[1], w[2]), MISSING);
            Due.is("to a missing one", x.copy(0, w[0], 2, w[1], w[2]), MISSING);
            Due.is("from a missing one to itself", x.copy(2, w[0], 2, w[1], w[2]), MISSING);
            Due.is("from a missing one to no sheet", x.copy(2, w[0], 4, w[1], w[2]), BAD);
            Due.is("from no sheet to a missing one", x.copy(-1, w[0], 2, w[1], w[2]), BAD);
        }
    }

    @Says(of = 31, words = "BAD: no such SHEET; -11; -13: they are of unlike sorts; -12 (also with n below 0).")
    static void copyRefusedChangesNeither() {
        NotTwice x = new NotTwice();
        Scene.row(x, 0, 2, 1, 2, 3, 4);
        Scene.row(x, 1, 2, 5, 6, 7, 8);
        Due.is("what has room does not come either", x.copy(0, 0, 1, 1, 4), OUTSIDE);
        Due.is("what is there does not come either", x.copy(0, 1, 1, 0, 4), OUTSIDE);
        holds(x, 0, 2, 0, 1, 2, 3, 4);
        holds(x, 1, 2, 0, 5, 6, 7, 8);
    }

    @Says(of = 32, words = {"PEOPLE by a SHEET that is taken for one of a sort: from one on, two by two (as of person()), n of"
        + " them (0 .. 8): how many came (others are left out)."})
    static void peopleFromNoneToEight() {
        Scene.range("how many", 0, 8, BAD, v -> sheets(40).people(2, 2, 0, v));
        NotTwice x = new NotTwice();
        int[] items = new int[40];
        for (int i = 0; i < 20; i++) {
            items[2 * i] = 100 * (i % 4) + i;
            items[2 * i + 1] = 255 - i;
        }
        Scene.row(x, 0, 2, items);
        Due.is("none", x.people(0, 2, 0, 0), 0);
        Due.is("nobody came", x.count(1), 0);
        Due.is("the last pair", x.people(0, 2, 38, 1), 1);
        Due.is("of house 3, 19", x.one(0, 0) * 100 + x.one(0, 1), 319);
        Due.is("tells", x.one(0, 2), 236);
        Due.is("seven have room", x.people(0, 2, 0, 8), 7);
        Due.is("the last who had", x.one(7, 1), 6);
        Due.is("nobody has", x.people(0, 2, 24, 8), 0);
        Due.is("eight", x.count(1), 8);
    }

    @Says(of = 32, words = {"PEOPLE by a SHEET that is taken for one of a sort: from one on, two by two (as of person()), n of"
        + " them (0 .. 8): how many came (others are left out)."})
    static void peopleLeftOut() {
        int[][] out = {{-1, 0}, {400, 0}, {0, -1}, {0, 256}, {MIN, 0}, {MAX, 0}, {0, MIN}, {0, MAX}};
        for (int[] o : out) {
            NotTwice x = new NotTwice();
            Scene.row(x, 0, 2, 11, 1, o[0], o[1], 399, 255);
            Due.is(o[0] + ", " + o[1] + " is left out", x.people(0, 2, 0, 3), 2);
            Due.is("the one ahead came", x.one(0, 1), 11);
            Due.is("the one behind came", x.one(1, 0) * 100 + x.one(1, 1), 399);
            Due.is("tells all", x.one(1, 2), 255);
            Due.is("nobody else", x.count(1), 2);
        }
        NotTwice y = new NotTwice();
        Scene.row(y, 0, 2, 1, 2, 3, 4);
        Due.is("from an odd one on", y.people(0, 2, 1, 1), 1);
        Due.is("2 and 3", y.one(0, 1) * 10 + y.one(0, 2), 23);
    }

    @Says(of = 32, words = "BAD: no such SHEET, sort, n; -13; -11; -12: what stood ahead came.")
    static void peopleRefused() {
        NotTwice x = sheets(4);
        for (int n : new int[] {MIN, -1, 9, MAX}) {
            Due.is(n + " of them", x.people(0, 0, 0, n), BAD);
            Due.is(n + " of a missing one", x.people(3, 0, 0, n), BAD);
            Due.is(n + " of another sort", x.people(0, 1, 0, n), BAD);
        }
        for (int from : new int[] {MIN, -1, 0, 3, 4, MAX}) {
            for (int n = 0; n <= 8; n += 8) {
                Due.is("no such sheet", x.people(4, 0, from, n), BAD);
                Due.is("no such sheet", x.people(-1, 0, from, n), BAD);
                Due.is("no such sort", x.people(0, 3, from, n), BAD);
                Due.is("no such sort", x.people(0, -1, from, n), BAD);
                Due.is("no such sort of a missing one", x.people(3, 3, from, n), BAD);
                Due.is("another sort", x.people(0, 1, from, n), UNLIKE);
                Due.is("another sort", x.people(2, 0, from, n), UNLIKE);
                for (int sort = 0; sort < 3; sort++) {
                    Due.is("missing", x.people(3, sort, from, n), MISSING);
                }
            }
        }
        Due.is("nobody came", x.count(1), 0);
    }

    @Says(of = 32, words = "BAD: no such SHEET, sort, n; -13; -11; -12: what stood ahead came.")
    static void peopleUpToAPlaceOutside() {
        for (int from : new int[] {MIN, MIN + 1, -2, -1, 3, 4, 5, MAX - 1, MAX}) {
            NotTwice x = sheets(4);
            Due.is("from " + from, x.people(2, 2, from, 1), OUTSIDE);
            Due.is("from " + from + ", eight", x.people(2, 2, from, 8), OUTSIDE);
            Due.is("nobody came", x.count(1), 0);
            Due.is("none from " + from, x.people(2, 2, from, 0), 0);
        }
        NotTwice y = new NotTwice();
        Scene.row(y, 0, 2, 10, 1, 400, 2, 30, 3, 40);
        Due.is("the last has no bits", y.people(0, 2, 0, 4), OUTSIDE);
        Due.is("two of those ahead came", y.count(1), 2);
        Due.is("the first", y.one(0, 1), 10);
        Due.is("the third", y.one(1, 1), 30);
        Due.is("once more", y.people(0, 2, 4, 2), OUTSIDE);
        Due.is("one more", y.count(1), 3);
        NotTwice z = Scene.house(0, 0, 0, 0, 0, 0, 0, 0, 0);
        z.sheet(0, 2, 4);
        Due.is("where nobody has room, none came", z.people(0, 2, 0, 2), 0);
        Due.is("outside all the same", z.people(0, 2, 0, 3), OUTSIDE);
    }

    @Says(of = 33, words = {"A STORY taken for one of KIND k (0 .. 5), or one under that one (also by others between): its"
        + " NUMBER."})
    static void takenForOneAbove() {
        int[][] taken = {{3, 1}, {3, 0}, {4, 2}, {4, 0}, {5, 1}, {5, 0}};
        for (int number : new int[] {0, 9}) {
            for (int[] t : taken) {
                NotTwice x = new NotTwice();
                x.story(t[0], 9 - number, number);
                Due.is("kind " + t[0] + " for " + t[1], x.taken(0, t[1]), number);
                Due.is("kind " + t[0] + " for itself", x.taken(0, t[0]), number);
            }
        }
    }

    @Says(of = 33, words = "BAD: k; -11: no such STORY; -13.")
    static void takenRefused() {
        NotTwice x = new NotTwice();
        for (int kind = 0; kind < 6; kind++) {
            x.story(kind, 0, 3);
        }
        int[][] unlike = {{0, 1}, {0, 2}, {0, 3}, {0, 4}, {0, 5}, {1, 2}, {1, 3}, {1, 5}, {2, 1}, {2, 4}, {3, 2}, {3, 4},
            {3, 5}, {4, 1}, {4, 3}, {5, 2}, {5, 3}, {5, 4}};
        for (int[] u : unlike) {
            Due.is("kind " + u[0] + " for " + u[1], x.taken(u[0], u[1]), UNLIKE);
        }
        for (int story : new int[] {MIN, -1, 6, 8, MAX}) {
            for (int k = 0; k < 6; k++) {
                Due.is("no such story", x.taken(story, k), MISSING);
            }
            for (int k : new int[] {MIN, -1, 6, MAX}) {
                Due.is("no such kind, story", x.taken(story, k), BAD);
            }
        }
        for (int k : new int[] {MIN, -1, 6, MAX}) {
            Due.is("no such kind", x.taken(0, k), BAD);
        }
    }
}
