/** The Terms: how large each thing may be, what it begins with, what it counts and how long it stays. */
final class TermsEdges {
    private static final int MIN = Scene.MIN, MAX = Scene.MAX;
    private static final int NONE = -1, BAD = -2, STATE = -3, FULL = -4;
    private static final long NO = -4611686018427387904L;

    private TermsEdges() {
    }

    /** In each of the houses sit two, of whom the first can tell the only story. */
    private static NotTwice fourHouses() {
        NotTwice x = Scene.stories(1);
        for (int house = 0; house < 4; house++) {
            Scene.sit(x, house, 1, 0);
        }
        return x;
    }

    /** Three stories and three people in house 0, each of whom can tell all. */
    private static NotTwice threes() {
        return Scene.house(3, 255, 255, 255);
    }

    @Says(of = 0, words = "An object is used for at most 512 calls after it has been made; what later calls answer is free.")
    static void theLastOf512Calls() {
        NotTwice x = new NotTwice();
        for (int i = 1; i < 512; i++) {
            x.pass();
        }
        Due.is("the 512th call", x.pass(), 512);
        NotTwice y = Scene.house(1, 1, 0);
        for (int call = 4; call < 512; call++) {
            Due.is("call " + call, y.hears(1, 0, call % 2), call == 4 ? 0 : 1 - call % 2);
        }
        Due.is("the 512th call", y.tell(0, 0), STATE);
    }

    @Says(of = 0, words = "An object is used for at most 512 calls after it has been made; what later calls answer is free.")
    static void theDearestCall512Times() {
        NotTwice x = new NotTwice();
        for (int s = 0; s < 8; s++) {
            x.story(0, 1, 0);
        }
        Scene.sit(x, 0, 255, 255, 255, 255, 255, 255);
        long first = x.drawn(5, 40) * 100 + x.spread(4, NONE) * 10 + x.goesOn(0, 0);
        for (int call = 18; call + 3 <= 512; call += 3) {
            Due.is("up to call " + (call + 2), x.drawn(5, 40) * 100 + x.spread(4, NONE) * 10 + x.goesOn(0, 0), first);
        }
    }

    @Says(of = 0, words = "HOUSES are 0 .. 3.")
    static void housesAreFour() {
        Scene.range("set of a house", 0, 3, BAD, v -> fourHouses().set(0, 0, v));
        Scene.range("may", 0, 3, BAD, v -> fourHouses().may(v));
        Scene.range("by", 0, 3, BAD, v -> fourHouses().by(v, 0));
        Scene.range("worth", 0, 3, NO, v -> fourHouses().worth(v, 0));
        Scene.range("most", 0, 3, NO, v -> fourHouses().most(v, 0));
        Scene.range("tell", 0, 3, BAD, v -> fourHouses().tell(v, 0));
        Scene.range("goesOn", 0, 3, BAD, v -> fourHouses().goesOn(v, 0));
        Scene.range("keepAway", 0, 3, BAD, v -> fourHouses().keepAway(v));
        Scene.range("stranger", 0, 3, BAD, v -> fourHouses().stranger(v, 0, 0));
        for (int house = 0; house < 4; house++) {
            Due.is("the first of house " + house, fourHouses().by(house, 0), 2 * house);
            Due.is("who is kept away from house " + house, fourHouses().keepAway(house), 2 * house);
        }
    }

    @Says(of = 0, words = "STORIES (8 at most, numbered from 0)")
    static void storiesAreEight() {
        NotTwice x = new NotTwice();
        for (int i = 0; i < 8; i++) {
            Due.is("a story's number", x.story(0, 1, 0), i);
            Due.is("stories", x.count(0), i + 1);
        }
        Due.is("a ninth", x.story(0, 1, 0), FULL);
        Due.is("still eight", x.count(0), 8);
        Scene.sit(x, 0, 255, 0);
        Due.is("all eight may be told", x.may(0), 255);
        Due.is("the eighth is told", x.tell(0, 7), 1);
        Due.is("the eighth is heard", x.one(1, 3), 128);
        Due.is("there is no ninth", x.tell(0, 8), BAD);
        Due.is("a twin of the eighth", x.twin(7, 6), 1);
        Due.is("eight are known, or not", x.one(1, 4), 192);
    }

    @Says(of = 0, words = "STORIES (8 at most, numbered from 0)")
    static void storiesThatAreThere() {
        Scene.range("twin, one", 0, 1, BAD, v -> threes().twin(v, 2));
        Scene.range("twin, the other", 1, 2, BAD, v -> threes().twin(0, v));
        Scene.range("hears", 0, 2, BAD, v -> threes().hears(0, v, 1));
        Scene.range("told", 0, 2, BAD, v -> threes().told(v, 0, 0));
        Scene.range("by", 0, 2, BAD, v -> threes().by(0, v));
        Scene.range("worth", 0, 2, NO, v -> threes().worth(0, v));
        Scene.range("tell", 0, 2, BAD, v -> threes().tell(0, v));
        Scene.range("taken", 0, 2, -11, v -> threes().taken(v, 0));
        Due.is("none to be told", new NotTwice().told(0, 0, 0), BAD);
        Due.is("none to be taken", new NotTwice().taken(0, 0), -11);
    }

    @Says(of = 0, words = {"have a KIND: 0 STORY, 1 LONG under STORY, 2 CHILD under STORY, 3 HALF under LONG,"
        + " 4 RARE under CHILD, 5 OLD under LONG;"})
    static void kindsAreSix() {
        Scene.range("story", 0, 5, BAD, v -> new NotTwice().story(v, 0, 0));
        Scene.range("taken", 0, 5, BAD, v -> threes().taken(0, v));
        boolean[][] under = new boolean[6][6];
        int[][] pairs = {{0, 0}, {1, 0}, {1, 1}, {2, 0}, {2, 2}, {3, 0}, {3, 1}, {3, 3}, {4, 0}, {4, 2}, {4, 4}, {5, 0},
            {5, 1}, {5, 5}};
        for (int[] pair : pairs) {
            under[pair[0]][pair[1]] = true;
        }
        for (int kind = 0; kind < 6; kind++) {
            NotTwice x = new NotTwice();
            x.story(kind, 0, 7);
            Due.is("the kind", x.told(0, 0, 0), kind);
            for (int k = 0; k < 6; k++) {
                Due.is(kind + " taken for " + k, x.taken(0, k), under[kind][k] ? 7 : -13);
            }
        }
    }

    @Says(of = 0, words = "a WORTH (0 .. 9), a NUMBER (0 .. 9),")
    static void worthAndNumber() {
        Scene.range("a worth", 0, 9, BAD, v -> new NotTwice().story(0, v, 0));
        Scene.range("a number", 0, 9, BAD, v -> new NotTwice().story(0, 0, v));
        for (int v : new int[] {0, 9}) {
            NotTwice x = new NotTwice();
            x.story(0, v, 9 - v);
            Due.is("its worth", x.told(0, 1, 0), v);
            Due.is("its number", x.told(0, 2, 0), 9 - v);
        }
    }

    @Says(of = 0, words = "a TWIN (that counts as one with it), or none (none at first).")
    static void noTwinAtFirst() {
        NotTwice x = Scene.house(8, 0);
        for (int s = 0; s < 8; s++) {
            Due.is("no twin at first", x.told(s, 3, 0), NONE);
            x.hears(0, s, 1);
            Due.is("alone, it counts as one", x.one(0, 4), 1 << s);
            x.hears(0, s, 0);
        }
        x.twin(0, 7);
        x.hears(0, 7, 1);
        Due.is("the last and the first count as one", x.one(0, 4), 129);
        x.hears(0, 7, 0);
        x.hears(0, 0, 1);
        Due.is("the first and the last count as one", x.one(0, 4), 129);
    }

    @Says(of = 0, words = "PEOPLE (8 at most, numbered from 0):")
    static void peopleAreEight() {
        NotTwice x = new NotTwice();
        for (int i = 0; i < 8; i++) {
            Due.is("a person's number", x.person(0, 0), i);
            Due.is("people", x.count(1), i + 1);
        }
        Due.is("a ninth", x.person(0, 0), FULL);
        Due.is("still eight", x.count(1), 8);
        Due.is("nobody is the ninth", x.one(8, 0), BAD);
        x.story(0, 1, 0);
        x.set(2, 7, 1);
        Due.is("the eighth tells", x.by(0, 0), 7);
        Due.is("seven others hear", x.tell(0, 0), 7);
    }

    @Says(of = 0, words = "PEOPLE (8 at most, numbered from 0):")
    static void peopleWhoAreThere() {
        Scene.range("set", 0, 2, BAD, v -> threes().set(0, v, 0));
        Scene.range("hears", 0, 2, BAD, v -> threes().hears(v, 0, 1));
        Scene.range("one", 0, 2, BAD, v -> threes().one(v, 1));
        Scene.range("send", 0, 2, BAD, v -> threes().send(v, 0));
        Scene.range("spread", -1, 2, BAD, v -> threes().spread(1, v));
        Due.is("nobody to be set", new NotTwice().set(0, 0, 0), BAD);
        Due.is("nobody to be sent", new NotTwice().send(0, 0), BAD);
    }

    @Says(of = 0, words = "AGE (0 .. 99),")
    static void ages() {
        Scene.range("set", 0, 99, BAD, v -> threes().set(1, 0, v));
        Scene.range("told", 0, 99, BAD, v -> threes().told(0, 5, v));
        Scene.range("stranger", 0, 99, BAD, v -> threes().stranger(1, v, 0));
        NotTwice x = new NotTwice();
        x.person(0, 0);
        x.person(399, 0);
        x.person(100, 0);
        Due.is("age 0 in house 0", x.one(0, 0) * 100 + x.one(0, 1), 0);
        Due.is("age 99 in house 3", x.one(1, 0) * 100 + x.one(1, 1), 399);
        Due.is("age 0 in house 1", x.one(2, 0) * 100 + x.one(2, 1), 100);
    }

    @Says(of = 0, words = "TELLS (bits of STORIES 0 .. 7 that one can tell),")
    static void tellsIsEightBits() {
        Scene.range("person", 0, 255, BAD, v -> new NotTwice().person(0, v));
        Scene.range("set", 0, 255, BAD, v -> threes().set(2, 0, v));
        Scene.range("stranger", 0, 255, BAD, v -> threes().stranger(1, 0, v));
        NotTwice x = Scene.house(7, 128, 0);
        Due.is("bit 7, of a story that is not there", x.may(0), 0);
        x.story(0, 1, 0);
        Due.is("bit 7, of a story that came", x.may(0), 128);
        for (int s = 0; s < 8; s++) {
            x.set(2, 0, 1 << s);
            Due.is("bit " + s, x.may(0), 1 << s);
        }
    }

    @Says(of = 0, words = "HEARD (bits likewise; none at first), HOUSE.")
    static void heardIsEightBits() {
        NotTwice x = Scene.house(8, 255, 255, 255, 255, 255, 255, 255, 255);
        for (int p = 0; p < 8; p++) {
            Due.is("none at first", x.one(p, 3), 0);
        }
        for (int s = 0; s < 8; s++) {
            x.hears(7, s, 1);
            Due.is("bits up to " + s, x.one(7, 3), (2 << s) - 1);
        }
        Due.is("others have heard none", x.one(6, 3) + x.one(0, 3), 0);
        for (int s = 0; s < 8; s++) {
            x.hears(7, s, 0);
            Due.is("bits without those up to " + s, x.one(7, 3), 255 & -(2 << s));
        }
    }

    @Says(of = 0, words = "THE NIGHT (0 .. 999; 0 at first).")
    static void theNightIs0AtFirst() {
        NotTwice x = new NotTwice();
        Due.is("at first", x.count(2), 0);
        Due.is("kept", x.image(), 0);
        Due.is("the next", x.pass(), 1);
    }

    /** No promised object comes so far: 512 calls are fewer. The class holds the bound all the same. */
    @Says(of = 0, words = {"THE NIGHT (0 .. 999; 0 at first).", "A NIGHT passes: THE NIGHT is 1 more (999 at most);"})
    static void theNightIs999AtMost() {
        NotTwice x = Scene.house(1, 1, 0);
        Scene.nights(x, 998);
        x.tell(0, 0);
        Due.is("the last", x.pass(), 999);
        Due.is("no other behind it", x.pass(), 999);
        Scene.nights(x, 100);
        Due.is("it stays", x.count(2), 999);
        Due.is("nothing is forgotten where no night comes", x.one(1, 3), 1);
    }

    @Says(of = 0, words = "NONE is -1; NO, where a long is answered, -4611686018427387904.")
    static void noneAndNo() {
        Due.is("NONE", NotTwice.NONE, -1);
        Due.is("NO", NotTwice.NO, -4611686018427387904L);
        NotTwice x = Scene.house(1, 1);
        Due.is("no twin", x.told(0, 3, 0), -1);
        Due.is("no teller", x.by(0, 0), -1);
        Due.is("nobody to keep away", x.keepAway(1), -1);
        Due.is("spread, of none", x.spread(1, -1), 0);
        x.sheet(0, 0, 0);
        Due.is("no wrong row", x.judge(0), -1);
        Due.is("no worth", x.worth(0, 0), -4611686018427387904L);
        Due.is("none that is worth most", x.most(0, 0), -4611686018427387904L);
    }

    @Says(of = 0, words = {"Quotients are cut toward 0.", "HALF: half (cut) of a LONG's;"})
    static void halvesAreCut() {
        int[] due = {1, 1, 2, 2, 3, 3, 4, 4, 5, 5};
        for (int worth = 0; worth < 10; worth++) {
            NotTwice x = new NotTwice();
            x.story(3, worth, 9);
            Due.is("a half one of " + worth, x.told(0, 5, 0), due[worth]);
            Due.is("to the old, too", x.told(0, 5, 99), due[worth]);
        }
    }

    private static void counts(int kind, int worth, int number, int age, int due) {
        NotTwice x = new NotTwice();
        x.story(kind, worth, number);
        Due.is("kind " + kind + ", worth " + worth + ", number " + number + " for one of " + age, x.told(0, 5, age), due);
    }

    @Says(of = 0, words = "COUNTS (for one of an AGE): STORY: WORTH; LONG: 2 more than a STORY;")
    static void plainOnesAndLongOnesCount() {
        for (int age : new int[] {0, 13, 14, 59, 60, 99}) {
            counts(0, 0, 9, age, 0);
            counts(0, 9, 0, age, 9);
            counts(1, 0, 9, age, 2);
            counts(1, 9, 0, age, 11);
        }
    }

    @Says(of = 0, words = "CHILD: twice a STORY's below 14, else a STORY's;")
    static void childrensOnesCountTwiceBelow14() {
        counts(2, 9, 9, 0, 18);
        counts(2, 9, 9, 13, 18);
        counts(2, 9, 9, 14, 9);
        counts(2, 9, 9, 60, 9);
        counts(2, 9, 9, 99, 9);
        counts(2, 0, 9, 13, 0);
        counts(2, 0, 9, 14, 0);
    }

    @Says(of = 0, words = "RARE: NUMBER more than a CHILD;")
    static void rareOnesCountMoreThanChildrens() {
        counts(4, 9, 9, 13, 27);
        counts(4, 9, 9, 14, 18);
        counts(4, 9, 0, 13, 18);
        counts(4, 9, 0, 14, 9);
        counts(4, 0, 9, 0, 9);
        counts(4, 0, 0, 99, 0);
    }

    @Says(of = 0, words = "OLD: 5 more than a LONG from 60 on, else a LONG's.")
    static void oldOnesCountMoreFrom60() {
        counts(5, 9, 9, 0, 11);
        counts(5, 9, 9, 13, 11);
        counts(5, 9, 9, 59, 11);
        counts(5, 9, 9, 60, 16);
        counts(5, 9, 9, 99, 16);
        counts(5, 0, 0, 59, 2);
        counts(5, 0, 0, 60, 7);
    }

    @Says(of = 0, words = {"STAYS (so many NIGHTS till it is forgotten): STORY: 30; LONG: NUMBER more than a STORY;"
        + " CHILD: half (cut) of a STORY's; HALF: a LONG's less 20; RARE: twice a CHILD's; OLD as a LONG. (0 at least.)"})
    static void staysFromTheLeastToTheMost() {
        for (int number = 0; number < 10; number++) {
            int[] due = {30, 30 + number, 15, 10 + number, 30, 30 + number};
            for (int kind = 0; kind < 6; kind++) {
                NotTwice x = new NotTwice();
                x.story(kind, 9 - number, number);
                Due.is("kind " + kind + " of number " + number + " stays", x.told(0, 4, 99), due[kind]);
                Due.holds("0 at least", x.told(0, 4, 0) >= 0);
            }
        }
    }

    @Says(of = 0, words = {"STAYS (so many NIGHTS till it is forgotten): STORY: 30; LONG: NUMBER more than a STORY;"
        + " CHILD: half (cut) of a STORY's; HALF: a LONG's less 20; RARE: twice a CHILD's; OLD as a LONG. (0 at least.)"})
    static void forgottenWhenItHasStayed() {
        for (int kind = 0; kind < 6; kind++) {
            for (int number : new int[] {0, 9}) {
                NotTwice x = new NotTwice();
                x.story(kind, 0, number);
                x.person(0, 0);
                Scene.nights(x, 3);
                x.hears(0, 0, 1);
                int stays = x.told(0, 4, 0);
                Scene.nights(x, stays - 1);
                Due.is("kind " + kind + ", the night ahead", x.one(0, 3), 1);
                x.pass();
                Due.is("kind " + kind + ", that night", x.one(0, 3), 0);
            }
        }
    }

    @Says(of = 0, words = "COUNTS (for one of an AGE): STORY: WORTH; LONG: 2 more than a STORY;")
    static void ageIsLookedAtWhereItDoesNotMatter() {
        for (int what = 0; what < 6; what++) {
            int it = what;
            Scene.range("told " + what, 0, 99, BAD, v -> threes().told(0, it, v));
        }
        Due.is("far above", threes().told(0, 0, MAX), BAD);
        Due.is("far below", threes().told(0, 0, MIN), BAD);
    }
}
