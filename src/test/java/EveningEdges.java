/** Evenings: what is known, may be told, by whom and for how much; what is drawn, judged, spread, kept. */
final class EveningEdges {
    private static final int MIN = Scene.MIN, MAX = Scene.MAX;
    private static final int NONE = -1, BAD = -2, STATE = -3;
    private static final long NO = -4611686018427387904L;
    private static final String GOES_ON = "GOES ON: of sets of STORIES all of which, TOLD in a HOUSE one behind the other by"
            + " numbers, MAY as they are told, the one with most; of like ones the least (bits).";
    private static final String SPREAD = "SPREAD: of all ways in which all PEOPLE could sit in HOUSES 0 .. h - 1 (h: 1 .. 4,"
            + " h to the power PEOPLE 4096 at most) that by which in most of these HOUSES some STORY MAY be told; of like ones"
            + " the least as digits to the base h (the last of the PEOPLE the highest one): how many HOUSES; where one sits.";
    private static final String DRAWN = "DRAWN by a SEED: z = z * 1103515245 + 12345 (an int; SEED at first); NIGHT for NIGHT:"
            + " for each of the PEOPLE one: the HOUSE is (z >>> 8) % 4; then in each HOUSE the STORY that is WORTH MOST is TOLD,"
            + " if one MAY; then the NIGHT passes: how many were told in n NIGHTS (0 .. 40).";
    private static final String JUDGED = "JUDGED: a SHEET tells rows of two, a HOUSE and a STORY, that are TOLD one behind the"
            + " other: the first row (from 0) that is none such, or MAY not be told then; NONE.";
    private static final String IMAGE = "AN IMAGE keeps HEARD (since when, too), HOUSE of PEOPLE, THE NIGHT, THE RULE (PEOPLE"
            + " that came since stay).";
    private static final String STRANGER = "A STRANGER of an AGE with some STORIES (bits) comes to a HOUSE (has HEARD none): how"
            + " many more MAY be told there (by anyone) than without.";

    private EveningEdges() {
    }

    @Says(of = 0, words = {"ONE KNOWS a STORY that one has HEARD, or whose TWIN one has HEARD (each is a TWIN of the other"
        + " one)."})
    static void knownByTwins() {
        NotTwice x = Scene.house(4, 0, 0);
        Due.is("knows none", x.one(0, 4), 0);
        x.twin(1, 2);
        x.hears(0, 1, 1);
        Due.is("the one, and its twin", x.one(0, 4), 6);
        Due.is("has heard the one alone", x.one(0, 3), 2);
        x.hears(0, 1, 0);
        x.hears(0, 2, 1);
        Due.is("the other, and its twin", x.one(0, 4), 6);
        x.twin(2, 3);
        Due.is("by the twin of now", x.one(0, 4), 12);
        x.twin(1, 0);
        Due.is("not by a twin of others", x.one(0, 4), 12);
        x.hears(0, 0, 1);
        Due.is("all", x.one(0, 4), 15);
        Due.is("another knows none", x.one(1, 4), 0);
    }

    @Says(of = 0, words = {"A STORY MAY be told in a HOUSE by one who sits there, TELLS it, and isn't tired of it (tires), if"
        + " others sit there, too, and none of these KNOWS it."})
    static void mayBeTold() {
        NotTwice x = Scene.house(1, 1);
        Due.is("no others", x.may(0), 0);
        Scene.sit(x, 1, 0);
        Due.is("others elsewhere", x.may(0), 0);
        Due.is("others there, who do not tell it", x.may(1), 0);
        Scene.sit(x, 0, 0);
        Due.is("one other", x.may(0), 1);
        x.hears(1, 0, 1);
        Due.is("known elsewhere", x.may(0), 1);
        x.hears(0, 0, 1);
        Due.is("known to the teller", x.may(0), 1);
        x.hears(2, 0, 1);
        Due.is("known to the other, too", x.may(0), 0);
        x.hears(0, 0, 0);
        Due.is("known to the other", x.may(0), 0);
        x.set(2, 0, 0);
        x.set(2, 2, 1);
        Due.is("told by the other who knows it", x.may(0), 1);
    }

    @Says(of = 0, words = {"A STORY MAY be told in a HOUSE by one who sits there, TELLS it, and isn't tired of it (tires), if"
        + " others sit there, too, and none of these KNOWS it."})
    static void someOfFourKnowIt() {
        for (int know = 0; know < 16; know++) {
            NotTwice x = Scene.house(1, 1, 1, 1, 1);
            for (int p = 0; p < 4; p++) {
                x.hears(p, 0, know >> p & 1);
            }
            int many = Integer.bitCount(know);
            Due.is("known to " + know, x.may(0), many < 2 ? 1 : 0);
            Due.is("by whom, known to " + know, x.by(0, 0), many == 0 ? 0 : many == 1 ? know / 2 - know / 8 : NONE);
            Due.is("in one house, known to " + know, x.spread(1, NONE), many < 2 ? 1 : 0);
            Due.is("in two houses, known to " + know, x.spread(2, NONE), many < 3 ? 2 : many < 4 ? 1 : 0);
            Due.is("goes on, known to " + know, x.goesOn(0, 1), many < 2 ? 1 : 0);
        }
    }

    @Says(of = 0, words = {"A STORY MAY be told in a HOUSE by one who sits there, TELLS it, and isn't tired of it (tires), if"
        + " others sit there, too, and none of these KNOWS it."})
    static void whoSitsElsewhereTellsNone() {
        NotTwice x = Scene.house(2, 0, 0, 2);
        Scene.sit(x, 1, 1);
        Scene.sit(x, 2, 1, 1);
        Due.is("may", x.may(0), 2);
        Due.is("by", x.by(0, 0), NONE);
        Due.is("worth", x.worth(0, 0), NO);
        Due.is("most", x.most(0, 0), 1);
        Due.is("tell", x.tell(0, 0), STATE);
        Due.is("may, elsewhere", x.may(2), 1);
        Due.is("goesOn", x.goesOn(0, 1), 2);
        x.tell(2, 0);
        Due.is("who sits elsewhere hears none", x.one(0, 3) + x.one(3, 3), 0);
    }

    @Says(of = 0, words = {"A STORY MAY be told in a HOUSE by one who sits there, TELLS it, and isn't tired of it (tires), if"
        + " others sit there, too, and none of these KNOWS it."})
    static void oneOfEightKnowsIt() {
        for (int p = 0; p < 8; p++) {
            NotTwice x = Scene.house(2, 3, 0, 0, 0, 0, 0, 0, 0);
            x.twin(0, 1);
            x.hears(p, 1, 1);
            Due.is(p + " knows it, by a twin", x.may(0), p == 0 ? 3 : 0);
        }
        NotTwice y = Scene.house(1, 1, 0);
        Due.rule(y, "likes 0;pays 0;tires 1;");
        Due.is("tired", y.may(0), 0);
        Due.rule(y, "likes 0;pays 0;tires own=0;");
        Due.is("who hears may be tired", y.may(0), 1);
    }

    @Says(of = 0, words = "BY WHOM: of those by whom it may the first.")
    static void theFirstByWhomItMay() {
        NotTwice x = Scene.house(1, 1, 1, 1, 1, 1, 1, 1, 1);
        for (int p = 0; p < 8; p++) {
            Due.is("the first who tells it", x.by(0, 0), p);
            x.set(2, p, 0);
        }
        Due.is("nobody tells it", x.by(0, 0), NONE);
        NotTwice y = Scene.house(1, 1, 1, 1);
        y.hears(1, 0, 1);
        Due.is("the only one who knows it", y.by(0, 0), 1);
        y.hears(1, 0, 0);
        Due.rule(y, "likes 0;pays 0;tires age<41;");
        y.set(1, 2, 41);
        Due.is("the only one who is not tired", y.by(0, 0), 2);
        y.set(0, 0, 3);
        y.set(1, 0, 41);
        Due.is("one who sits elsewhere is none", y.by(0, 0), 2);
    }

    @Says(of = 0, words = "WORTH in a HOUSE: likes of all others there, and pays of the teller, together.")
    static void worthFromTheLeastToTheMost() {
        NotTwice x = Scene.house(1, 1, 0, 0, 0, 0, 0, 0, 0);
        Due.rule(x, "likes 9999;pays 9999;tires 0;");
        Due.is("the most", x.worth(0, 0), 8 * 99);
        Due.rule(x, "likes 0-9999;pays 0-9999;tires 0;");
        Due.is("the least", x.worth(0, 0), -99);
        Due.rule(x, "likes own*50+10;pays own;tires 0;");
        Due.is("the teller likes nothing", x.worth(0, 0), 7 * 10 + 1);
        for (int p = 7; p > 1; p--) {
            x.set(0, p, p % 3 + 1);
            Due.is("of those there", x.worth(0, 0), (p - 1) * 10 + 1);
        }
        x.set(0, 1, 1);
        Due.is("of nobody", x.worth(0, 0), NO);
        NotTwice y = Scene.house(1, 0, 0, 0, 0, 0, 0, 0, 1);
        Due.rule(y, "likes 1+age-40;pays own*50;tires 0;");
        Due.is("the last tells it", y.worth(0, 0), 57);
        y.set(1, 0, 49);
        Due.is("to the first, too", y.worth(0, 0), 66);
    }

    @Says(of = 0, words = "TOLD in a HOUSE (BY WHOM it may): all others there have HEARD it since THE NIGHT (also those who had).")
    static void toldToAllOthers() {
        NotTwice x = Scene.house(1, 0, 1, 1);
        Scene.sit(x, 1, 1);
        Scene.nights(x, 10);
        x.hears(2, 0, 1);
        Scene.nights(x, 10);
        Due.is("told by the one who knows it", x.tell(0, 0), 2);
        Due.is("all others", x.one(0, 3) * 10 + x.one(1, 3), 11);
        Due.is("not elsewhere", x.one(3, 3), 0);
        Scene.nights(x, 19);
        Due.is("the teller, since the night ahead", x.one(2, 3), 1);
        x.pass();
        Due.is("the teller heard nothing new", x.one(2, 3), 0);
        Scene.nights(x, 9);
        Due.is("others, since that night", x.one(0, 3) * 10 + x.one(1, 3), 11);
        x.pass();
        Due.is("not for longer", x.one(0, 3) * 10 + x.one(1, 3), 0);
    }

    @Says(of = 0, words = {"A NIGHT passes: THE NIGHT is 1 more (999 at most);", "then whoever has HEARD a STORY since a NIGHT"
        + " that is STAYS or more less than it has not HEARD it any more."})
    static void forgottenByWhoeverHeard() {
        NotTwice x = Scene.stories(8);
        for (int house = 0; house < 4; house++) {
            Scene.sit(x, house, 0, 0);
        }
        for (int p = 0; p < 8; p++) {
            x.hears(p, p, 1);
            x.hears(p, 7 - p, 1);
            x.pass();
        }
        Scene.nights(x, 21);
        for (int p = 0; p < 8; p++) {
            for (int q = 0; q < 8; q++) {
                Due.is(q + " before night " + (30 + p), x.one(q, 3), q < p ? 0 : 1 << q | 1 << (7 - q));
            }
            Due.is("the night", x.pass(), 30 + p);
        }
        Due.is("the last forgot", x.one(7, 3), 0);
    }

    @Says(of = 0, words = {"then whoever has HEARD a STORY since a NIGHT that is STAYS or more less than it has not HEARD it any"
        + " more."})
    static void heardInANightThatIsYetToCome() {
        NotTwice x = Scene.stories(2);
        x.image();
        Scene.nights(x, 20);
        x.person(0, 0);
        x.hears(0, 0, 1);
        x.back();
        x.hears(0, 1, 1);
        Scene.nights(x, 29);
        Due.is("both", x.one(0, 3), 3);
        x.pass();
        Due.is("heard in night 0", x.one(0, 3), 1);
        Scene.nights(x, 19);
        Due.is("heard in night 20", x.one(0, 3), 1);
        x.pass();
        Due.is("not for longer", x.one(0, 3), 0);
    }

    @Says(of = 0, words = GOES_ON)
    static void goesOnFromNoneToAll() {
        NotTwice nobody = Scene.stories(8);
        Due.is("nobody, how many", nobody.goesOn(0, 0), 0);
        Due.is("nobody, the set", nobody.goesOn(0, 1), 0);
        NotTwice none = Scene.house(0, 255, 255);
        Due.is("no stories, how many", none.goesOn(0, 0), 0);
        Due.is("no stories, the set", none.goesOn(0, 1), 0);
        NotTwice one = Scene.house(1, 1, 0);
        Due.is("the only story, how many", one.goesOn(0, 0), 1);
        Due.is("the only story, the set", one.goesOn(0, 1), 1);
        NotTwice all = Scene.house(8, 255, 0);
        Due.is("all, how many", all.goesOn(0, 0), 8);
        Due.is("all, the set", all.goesOn(0, 1), 255);
        all.hears(1, 7, 1);
        Due.is("but the last", all.goesOn(0, 1), 127);
        all.hears(1, 0, 1);
        Due.is("but the first, too", all.goesOn(0, 1), 126);
    }

    @Says(of = 0, words = GOES_ON)
    static void goesOnWithTheLeastOfLikeSets() {
        NotTwice x = Scene.house(8, 255, 0);
        for (int s = 0; s < 4; s++) {
            x.twin(s, 7 - s);
        }
        Due.is("one of each twins", x.goesOn(0, 0), 4);
        Due.is("the least", x.goesOn(0, 1), 15);
        x.hears(0, 0, 1);
        Due.is("the teller may know them", x.goesOn(0, 1), 15);
        x.set(2, 0, 240);
        Due.is("what one tells", x.goesOn(0, 1), 240);
        x.set(2, 0, 248);
        Due.is("the least of those", x.goesOn(0, 1), 232);
    }

    @Says(of = 0, words = GOES_ON)
    static void goesOnByNumbers() {
        NotTwice x = Scene.house(8, 127, 128);
        Due.rule(x, "likes 0;pays 0;tires own=1 and heard<7;");
        Due.is("the last when the seven ahead were told", x.goesOn(0, 1), 255);
        Due.is("not at first", x.may(0), 127);
        NotTwice y = Scene.house(8, 254, 1);
        Due.rule(y, "likes 0;pays 0;tires own=1 and heard<7;");
        Due.is("the first comes ahead of the seven", y.goesOn(0, 1), 254);
        NotTwice z = Scene.house(8, 1, 254);
        Due.rule(z, "likes 0;pays 0;tires own=7 and heard=1;");
        Due.is("the first would tire the other", z.goesOn(0, 1), 254);
        Due.is("how many", z.goesOn(0, 0), 7);
        NotTwice w = Scene.house(2, 3, 3);
        Due.rule(w, "likes 0;pays 0;tires heard;");
        Due.is("the first by one, the second by the same", w.goesOn(0, 1), 3);
    }

    @Says(of = 0, words = {"WORTH MOST in a HOUSE: of STORIES that MAY there the one with the greatest WORTH; of like ones the"
        + " first."})
    static void worthMost() {
        NotTwice x = Scene.house(8, 255, 0);
        Due.is("of like ones the first", x.most(0, 0), 0);
        x.hears(1, 0, 1);
        Due.is("that may be told", x.most(0, 0), 1);
        for (int s = 1; s < 7; s++) {
            x.hears(1, s, 1);
        }
        Due.is("the last", x.most(0, 0), 7);
        x.hears(1, 7, 1);
        Due.is("none", x.most(0, 0), NO);
        NotTwice y = new NotTwice();
        int[] worth = {0, 3, 9, 8, 9, 1, 2, 9};
        for (int w : worth) {
            y.story(0, w, 0);
        }
        Scene.sit(y, 0, 255, 0);
        Due.is("the first of three", y.most(0, 0), 2);
        Due.is("its worth", y.most(0, 1), 7);
        Due.rule(y, "likes 0;pays 0-worth*20;tires 0;");
        Due.is("0 is more than what is below", y.most(0, 0), 0);
        Due.is("its worth", y.most(0, 1), 0);
        y.hears(1, 0, 1);
        Due.is("the greatest of those below 0", y.most(0, 0), 5);
        Due.is("its worth", y.most(0, 1), -20);
    }

    @Says(of = 0, words = SPREAD)
    static void spreadOver4096WaysAtMost() {
        int[][] most = {{1, 8}, {2, 8}, {3, 7}, {4, 6}};
        for (int[] m : most) {
            NotTwice x = Scene.stories(1);
            for (int p = 0; p < 8; p++) {
                Due.holds(p + " over " + m[0], x.spread(m[0], NONE) == (p > m[1] ? BAD : Math.min(m[0], p / 2)));
                Scene.sit(x, p % 4, 1);
            }
            Due.is("8 over " + m[0], x.spread(m[0], NONE), m[1] < 8 ? BAD : m[0]);
            Due.holds("8 over " + m[0] + ", the last", (x.spread(m[0], 7) == BAD) == (m[1] < 8));
        }
        for (int h : new int[] {MIN, -1, 0, 5, 4096, MAX}) {
            Due.is("over " + h, Scene.house(1, 1, 1).spread(h, NONE), BAD);
            Due.is("nobody over " + h, new NotTwice().spread(h, NONE), BAD);
        }
    }

    @Says(of = 0, words = SPREAD)
    static void spreadByTheLeastDigits() {
        NotTwice x = Scene.house(1, 1, 1, 1, 1, 1, 1);
        Due.is("three houses", x.spread(3, NONE), 3);
        int[] three = {2, 2, 1, 1, 0, 0};
        int[] two = {1, 1, 0, 0, 0, 0};
        for (int p = 0; p < 6; p++) {
            Due.is("of three", x.spread(3, p), three[p]);
            Due.is("three of four", x.spread(4, p), three[p]);
            Due.is("of two", x.spread(2, p), two[p]);
            Due.is("of one", x.spread(1, p), 0);
        }
        NotTwice none = Scene.house(1, 0, 0, 0);
        for (int p = 0; p < 3; p++) {
            none.set(0, p, 3);
            Due.is("where none may be told, all sit in the first", none.spread(4, p), 0);
        }
        Due.is("in none", none.spread(4, NONE), 0);
        Due.is("nobody", new NotTwice().spread(4, NONE), 0);
    }

    @Says(of = 0, words = SPREAD)
    static void spreadWhereTheHighestDigitIsNeeded() {
        NotTwice x = Scene.house(1, 0, 1, 0);
        x.hears(2, 0, 1);
        Due.is("one house", x.spread(2, NONE), 1);
        Due.is("the last, who knows it, in the first", x.spread(2, 2), 0);
        Due.is("the first in the other", x.spread(2, 0), 1);
        Due.is("the second in the other", x.spread(2, 1), 1);
        Due.is("all together", x.spread(1, NONE), 0);
        int[] due = {1, 1, 0, 0};
        NotTwice y = Scene.house(1, 1, 0, 0, 1);
        y.hears(0, 0, 1);
        y.hears(3, 0, 1);
        Due.is("those who know it sit apart", y.spread(2, NONE), 2);
        for (int p = 0; p < 4; p++) {
            Due.is("the least way", y.spread(2, p), due[p]);
            Due.is("nobody is moved", y.one(p, 0), 0);
        }
        y.hears(1, 0, 1);
        y.set(1, 2, 77);
        Due.rule(y, "likes 0;pays 0;tires not many=2;");
        Due.is("tired by how many would sit there", y.spread(1, NONE), 0);
        Due.is("but not among two", y.spread(2, NONE), 1);
    }

    @Says(of = 0, words = SPREAD)
    static void spreadWhereNoneIsTired() {
        for (int many = 2; many < 6; many++) {
            NotTwice x = Scene.house(8, 128, 128, 128, 128);
            Due.rule(x, "likes 0;pays 0;tires not many=" + many + ";");
            Due.is(many + " must sit there, two houses", x.spread(2, NONE), many == 2 ? 2 : many < 5 ? 1 : 0);
            Due.is(many + " must sit there, one house", x.spread(1, NONE), many == 4 ? 1 : 0);
            Due.is("one of the two first", x.spread(2, 0), many == 2 || many == 3 ? 1 : 0);
            Due.rule(x, "likes 0;pays 0;tires many=" + many + ";");
            Due.is("not " + many + " there, two houses", x.spread(2, NONE), many == 2 ? 1 : 2);
            Due.is("not " + many + " there, one house", x.spread(1, NONE), many == 4 ? 0 : 1);
        }
        NotTwice y = Scene.house(2, 1, 2, 3);
        y.set(1, 2, 77);
        Due.rule(y, "likes 0;pays 0;tires age=77 or own=1 and age=40;");
        Due.is("all are tired", y.spread(1, NONE), 0);
        y.set(1, 2, 41);
        Due.is("one is not", y.spread(1, NONE), 1);
        NotTwice z = new NotTwice();
        z.story(0, 3, 0);
        z.story(0, 4, 0);
        Scene.sit(z, 0, 3, 0);
        Due.rule(z, "likes 0;pays 0;tires worth=3;");
        z.hears(1, 1, 1);
        Due.is("one story tires, one is known", z.spread(2, NONE), 0);
        z.hears(1, 1, 0);
        Due.is("one story tires, one is not known", z.spread(2, NONE), 1);
    }

    @Says(of = 0, words = SPREAD)
    static void spreadByWaysThatCarry() {
        NotTwice x = Scene.house(2, 2, 0, 0, 1);
        x.hears(0, 0, 1);
        x.hears(1, 1, 1);
        x.hears(3, 0, 1);
        int[] due = {1, 0, 1, 0};
        for (int p = 0; p < 4; p++) {
            Due.is("0 and 2, 1 and 3", x.spread(2, p), due[p]);
            Due.is("0 and 2, 1 and 3, of three", x.spread(3, p), due[p]);
        }
        NotTwice y = Scene.house(1, 1, 0, 0);
        y.hears(1, 0, 1);
        Due.is("0 with 2", y.spread(2, NONE), 1);
        int[] alone = {0, 1, 0};
        for (int p = 0; p < 3; p++) {
            Due.is("0 with 2", y.spread(2, p), alone[p]);
            Due.is("0 with 2, of four", y.spread(4, p), alone[p]);
        }
    }

    @Says(of = 0, words = {"KEEP AWAY: of those in a HOUSE the one without whom most STORIES MAY be told there; of like ones the"
        + " first; NONE: nobody is there."})
    static void keptAway() {
        NotTwice x = Scene.stories(3);
        Due.is("nobody", x.keepAway(0), NONE);
        Scene.sit(x, 1, 7, 7);
        Due.is("nobody there", x.keepAway(0), NONE);
        Scene.sit(x, 0, 0);
        Due.is("one alone", x.keepAway(0), 2);
        Scene.sit(x, 0, 7, 0, 0);
        Due.is("not the one who tells all; the first of the others", x.keepAway(0), 2);
        x.hears(2, 0, 1);
        x.hears(4, 0, 1);
        x.hears(4, 1, 1);
        Due.is("who knows one, and who knows two: none alike", x.keepAway(0), 4);
        x.hears(2, 2, 1);
        Due.is("of like ones the first", x.keepAway(0), 2);
        x.hears(5, 0, 1);
        x.hears(5, 1, 1);
        x.hears(5, 2, 1);
        Due.is("where two know each, the first", x.keepAway(0), 2);
        x.set(0, 2, 2);
        Due.is("without whom one may be told", x.keepAway(0), 5);
        x.set(0, 4, 2);
        Due.is("of two without whom none may be told the first", x.keepAway(0), 3);
        Due.is("elsewhere", x.keepAway(1), 0);
    }

    @Says(of = 0, words = {"SEND: the HOUSE in which, if one sat there, most STORIES MAY be told by that very one; of like ones"
        + " the first."})
    static void sent() {
        NotTwice x = Scene.house(3, 7);
        for (int what = 0; what < 2; what++) {
            Due.is("nobody to hear it", x.send(0, what), 0);
        }
        for (int house = 3; house > 0; house--) {
            Scene.sit(x, house, 7);
            Due.is("the first of like houses", x.send(0, 0), house);
            Due.is("how many", x.send(0, 1), 3);
        }
        Scene.sit(x, 0, 7);
        Due.is("where one sits", x.send(0, 0), 0);
        x.hears(4, 0, 1);
        x.hears(3, 1, 1);
        x.hears(2, 2, 1);
        Due.is("the only one where all may be told", x.send(0, 0), 3);
        x.hears(1, 0, 1);
        Due.is("the first of like houses", x.send(0, 0), 0);
        Due.is("how many", x.send(0, 1), 2);
        x.hears(2, 2, 0);
        Due.is("where most may be told", x.send(0, 0), 2);
        Due.is("by others does not count", x.send(0, 1), 3);
        x.set(2, 0, 0);
        Due.is("by one who tells none", x.send(0, 1), 0);
        Due.is("one who tells none, in the first", x.send(0, 0), 0);
    }

    @Says(of = 0, words = JUDGED)
    static void judgedFromNoRowToTheLast() {
        NotTwice x = Scene.house(8, 255, 0);
        Scene.sit(x, 3, 255, 0);
        x.sheet(0, 2, 0);
        Due.is("no rows", x.judge(0), NONE);
        int[] rows = new int[40];
        for (int row = 0; row < 20; row++) {
            rows[2 * row] = row < 8 ? 0 : 3;
            rows[2 * row + 1] = row % 8;
        }
        Scene.row(x, 0, 2, rows);
        Due.is("sixteen may, no more", x.judge(0), 16);
        x.cell(0, 0, 3);
        Due.is("then it was told ahead", x.judge(0), 8);
        x.cell(0, 1, 8);
        Due.is("the first is none such", x.judge(0), 0);
        NotTwice y = Scene.house(1, 1, 1);
        Due.rule(y, "likes 0;pays 0;tires heard=8;");
        y.sheet(1, 0, 40);
        Due.is("to and fro, then no more", y.judge(1), 2);
        NotTwice z = Scene.house(2, 3, 0);
        Scene.row(z, 1, 0, 0, 0, 0, 1, 0, 0);
        Due.is("the last", z.judge(1), 2);
        Scene.row(z, 1, 0, 0, 0, 0, 1);
        Due.is("all may", z.judge(1), NONE);
    }

    @Says(of = 0, words = JUDGED)
    static void judgedRowsThatAreNoneSuch() {
        int[][] wrong = {{-1, 0}, {4, 0}, {0, -1}, {0, 2}, {127, 127}, {-128, -128}};
        for (int sort = 0; sort < 3; sort++) {
            for (int[] w : wrong) {
                NotTwice x = Scene.house(2, 3, 0);
                Scene.row(x, 3, sort, 0, 0, w[0], w[1], 0, 1);
                Due.is("a row of " + w[0] + ", " + w[1], x.judge(3), 1);
                x.cell(3, 2, 0);
                x.cell(3, 3, 1);
                Due.is("then the row behind it", x.judge(3), 2);
            }
        }
        NotTwice y = Scene.house(1, 1, 0);
        Scene.row(y, 3, 2, MIN, MAX);
        Due.is("far outside", y.judge(3), 0);
        Scene.row(y, 3, 2, 0, 256);
        Due.is("ints have all their bits", y.judge(3), 0);
    }

    @Says(of = 0, words = "LEFT: STORIES (bits) that nobody KNOWS.")
    static void leftFromNoneToAll() {
        NotTwice x = new NotTwice();
        Due.is("no stories", x.left(), 0);
        x = Scene.stories(8);
        Due.is("nobody knows any", x.left(), 255);
        for (int p = 0; p < 8; p++) {
            Scene.sit(x, p % 4, 255);
            x.hears(p, p, 1);
            Due.is("those behind " + p, x.left(), 255 & -(2 << p));
        }
        x.hears(0, 0, 0);
        x.hears(7, 7, 0);
        Due.is("the first and the last", x.left(), 129);
        x.twin(0, 1);
        Due.is("the last, for the first is a twin", x.left(), 128);
    }

    @Says(of = 0, words = STRANGER)
    static void aStrangerBringsMoreOrFewer() {
        NotTwice x = Scene.house(8, 0);
        Due.is("to nobody", x.stranger(3, 0, 255), 0);
        Due.is("to one, with all", x.stranger(0, 0, 255), 8);
        Due.is("to one, with none", x.stranger(0, 99, 0), 0);
        x.set(2, 0, 255);
        Due.is("told by the one who sits there", x.stranger(0, 99, 0), 8);
        Scene.sit(x, 0, 0);
        Due.is("no more than without", x.stranger(0, 99, 255), 0);
        x.hears(1, 0, 1);
        Due.is("known there", x.stranger(0, 99, 255), 0);
        Due.rule(x, "likes 0;pays 0;tires many=3;");
        Due.is("all that might be told without", x.stranger(0, 99, 255), -7);
        Due.rule(x, "likes 0;pays 0;tires age=99 or heard;");
        Due.is("the stranger's age", x.stranger(1, 99, 255), 0);
    }

    @Says(of = 0, words = STRANGER)
    static void aStrangerIsTheNinth() {
        NotTwice x = Scene.house(8, 1, 0, 0, 0, 0, 0, 0, 0);
        Due.is("to eight", x.stranger(0, 0, 255), 7);
        x.hears(7, 7, 1);
        Due.is("one of whom knows one", x.stranger(0, 0, 255), 6);
        Due.is("to nobody", x.stranger(3, 0, 255), 0);
        Due.is("there are eight", x.count(1), 8);
        Due.is("a second time", x.stranger(0, 0, 255), 6);
        x.back();
        Due.is("who was there may be told", x.may(0), 1);
        Due.rule(x, "likes 0;pays 0;tires not(heard=0 and own=8 and age=33);");
        Due.is("has heard none, tells all, is 33", x.stranger(0, 33, 255), 7);
        Due.is("is 34", x.stranger(0, 34, 255), 0);
    }

    @Says(of = 0, words = STRANGER)
    static void aStrangerDoesNotStay() {
        NotTwice x = Scene.house(8, 1, 0, 0);
        Scene.sit(x, 1, 6);
        for (int house = 0; house < 4; house++) {
            Due.is("comes to house " + house, x.stranger(house, 40, 254), house == 0 ? 7 : house == 1 ? 7 : 0);
            Due.is("goesOn there", x.goesOn(house, 1), house == 0 ? 1 : 0);
            Due.is("keepAway there", x.keepAway(house), house == 0 ? 1 : house == 1 ? 3 : NONE);
            Due.is("send there", x.send(3, 0) * 10 + x.send(3, 1), 2);
            Scene.row(x, 0, 0, house, 1);
            Due.is("judge there", x.judge(0), 0);
            Due.is("may there", x.may(house), house == 0 ? 1 : 0);
            Due.is("by there", x.by(house, 1), NONE);
        }
    }

    @Says(of = 0, words = GOES_ON)
    static void goesOnWhateverWasAskedAhead() {
        NotTwice x = Scene.house(3, 7, 0);
        Scene.sit(x, 1, 0, 0, 0);
        x.hears(2, 0, 1);
        x.hears(3, 0, 1);
        x.hears(4, 1, 1);
        x.hears(2, 1, 1);
        for (int house = 3; house >= 0; house--) {
            x.may(house);
            x.most(house, 0);
            Due.is("behind a look at house " + house, x.goesOn(0, 1), 7);
            Due.is("elsewhere", x.goesOn(1, 1), 0);
            Due.is("back again", x.goesOn(0, 0), 3);
        }
    }

    /** The houses of two as they are drawn, by whole numbers without a bound; so many times they meet. */
    private static int meetings(int seed, int n, int stays) {
        long z = seed & 0xFFFFFFFFL;
        int told = 0;
        int since = -1000;
        for (int night = 0; night < n; night++) {
            z = (z * 1103515245L + 12345L) % 4294967296L;
            long one = z / 256 % 4;
            z = (z * 1103515245L + 12345L) % 4294967296L;
            long other = z / 256 % 4;
            if (one == other && night - since >= stays) {
                told++;
                since = night;
            }
        }
        return told;
    }

    @Says(of = 0, words = DRAWN)
    static void drawnByAnySeed() {
        int[] seeds = {MIN, MIN + 1, -12345, -2, -1, 0, 1, 2, 255, 256, 65535, 65536, 1103515245, MAX - 1, MAX};
        for (int seed : seeds) {
            NotTwice x = new NotTwice();
            x.story(3, 0, 0);
            Scene.sit(x, 0, 1, 0);
            for (int n : new int[] {0, 1, 2, 3, 11, 39, 40}) {
                Due.is("drawn by " + seed + " in " + n, x.drawn(seed, n), meetings(seed, n, 10));
            }
        }
    }

    @Says(of = 0, words = DRAWN)
    static void drawnForNoneToFortyNights() {
        Scene.range("drawn", 0, 40, BAD, v -> Scene.house(1, 1, 0).drawn(1, v));
        NotTwice x = Scene.stories(8);
        Due.is("nobody", x.drawn(1, 40), 0);
        Scene.sit(x, 0, 255);
        Due.is("one alone", x.drawn(1, 40), 0);
        Scene.sit(x, 0, 0, 0, 0, 0, 0, 0, 0);
        Due.is("no night", x.drawn(1, 0), 0);
        Due.rule(x, "likes 0;pays 0;tires night<14;");
        int without = x.drawn(3, 14);
        Due.is("all are tired till night 14", without, 0);
        Scene.nights(x, 13);
        Due.is("night 13 goes ahead of night 14", x.drawn(3, 1), 0);
        x.pass();
        Due.rule(x, "likes 0;pays 0;tires not night=14;");
        Due.is("in night 14 alone", x.drawn(3, 40), x.drawn(3, 1));
        Due.is("the night is as it was", x.count(2), 14);
    }

    @Says(of = 0, words = DRAWN)
    static void drawnInEachHouseTheOneWorthMost() {
        NotTwice x = Scene.house(1, 1, 1, 1, 1, 1, 1, 1, 1);
        Due.is("in as many houses as two or more sit in", x.drawn(7, 1), crowded(7));
        Due.is("by another seed", x.drawn(8, 1), crowded(8));
        Due.is("by another seed", x.drawn(-99, 1), crowded(-99));
        NotTwice y = new NotTwice();
        y.story(0, 0, 0);
        y.story(2, 9, 0);
        Scene.sit(y, 0, 3, 0);
        // Worth most first: the other one could then be told 15 nights long, by turns.
        int first = -1;
        int second = -1;
        for (int n = 1; n <= 40; n++) {
            int told = y.drawn(5, n);
            first = first < 0 && told == 1 ? n : first;
            second = second < 0 && told == 2 ? n : second;
        }
        Due.holds("two were told", first > 0 && second > first && second - first < 15);
        Scene.nights(y, 1);
        Due.rule(y, "likes 0;pays 0;tires worth=9;");
        Due.is("the other one alone", y.drawn(5, second), 1);
    }

    /** In how many houses sit two or more of eight, as one night is drawn. */
    private static int crowded(int seed) {
        long z = seed & 0xFFFFFFFFL;
        int[] sit = new int[4];
        for (int p = 0; p < 8; p++) {
            z = (z * 1103515245L + 12345L) % 4294967296L;
            sit[(int) (z / 256 % 4)]++;
        }
        int houses = 0;
        for (int s : sit) {
            houses += s > 1 ? 1 : 0;
        }
        return houses;
    }

    @Says(of = 0, words = IMAGE)
    static void anImageKeepsSinceWhen() {
        NotTwice x = Scene.house(2, 0, 0);
        x.hears(0, 0, 1);
        Scene.nights(x, 10);
        x.hears(0, 1, 1);
        Due.is("kept", x.image(), 10);
        Scene.nights(x, 19);
        x.hears(0, 0, 1);
        x.hears(0, 1, 0);
        Scene.nights(x, 40);
        Due.is("all is forgotten", x.one(0, 3), 0);
        Due.is("back", x.back(), 10);
        Due.is("all is heard", x.one(0, 3), 3);
        Scene.nights(x, 19);
        Due.is("till night 29", x.one(0, 3), 3);
        x.pass();
        Due.is("the one since night 0", x.one(0, 3), 2);
        Scene.nights(x, 9);
        Due.is("till night 39", x.one(0, 3), 2);
        x.pass();
        Due.is("the one since night 10", x.one(0, 3), 0);
    }

    @Says(of = 0, words = IMAGE)
    static void anImageKeepsHousesAndTheRule() {
        NotTwice x = Scene.stories(1);
        for (int p = 0; p < 7; p++) {
            x.person(100 * (p % 4) + 50, 1);
        }
        Due.rule(x, "likes 1;pays 1;tires 1;");
        x.image();
        x.force(0);
        for (int p = 0; p < 7; p++) {
            x.set(0, p, 3 - p % 4);
            x.set(1, p, 60 + p);
            x.set(2, p, 100 + p);
        }
        x.person(210, 3);
        x.hears(7, 0, 1);
        x.back();
        Due.is("the rule", x.count(5), 1);
        for (int p = 0; p < 7; p++) {
            Due.is("the house of " + p, x.one(p, 0), p % 4);
            Due.is("ages are not kept", x.one(p, 1), 60 + p);
            Due.is("nor what one tells", x.one(p, 2), 100 + p);
        }
        Due.is("who came since is there", x.count(1), 8);
        Due.is("who came since sits there", x.one(7, 0) * 100 + x.one(7, 1), 210);
        Due.is("who came since has heard it", x.one(7, 3), 1);
        Due.is("there is no room more", x.person(0, 0), -4);
    }

    @Says(of = 0, words = IMAGE)
    static void anImageOfTheLastOfAll() {
        NotTwice x = Scene.house(8, 0, 0, 0, 0, 0, 0, 0, 0);
        for (int p = 0; p < 8; p++) {
            x.hears(p, 7 - p, 1);
            x.hears(p, p, 1);
            x.pass();
        }
        x.image();
        for (int p = 0; p < 8; p++) {
            x.hears(p, 7 - p, 1);
            x.hears(p, p, 1);
        }
        Scene.nights(x, 30);
        x.back();
        Scene.nights(x, 21);
        for (int p = 0; p < 8; p++) {
            Due.is(p + " since night " + p, x.one(p, 3), 1 << p | 1 << (7 - p));
            x.pass();
            Due.is(p + " not for longer", x.one(p, 3), 0);
        }
    }

    @Says(of = 0, words = {"GOES ON:", "SEND:", "KEEP AWAY:", "JUDGED:", "DRAWN by a SEED:"})
    static void whatIsThoughtOfHasTheirAges() {
        NotTwice x = Scene.stories(1);
        x.person(10, 1);
        x.person(20, 1);
        x.person(30, 0);
        for (int tired = 10; tired <= 20; tired += 10) {
            Due.rule(x, "likes 0;pays 0;tires not age=" + (30 - tired) + ";");
            int teller = tired == 10 ? 1 : 0;
            Due.is("goesOn", x.goesOn(0, 0), 1);
            Due.is("keepAway", x.keepAway(0), 1 - teller);
            Due.is("send, who is not tired", x.send(teller, 1), 1);
            Due.is("send, who is tired", x.send(1 - teller, 1), 0);
            x.sheet(0, 0, 4);
            Due.is("judge", x.judge(0), 1);
            Due.is("drawn", x.drawn(tired, 40) > 0 ? 1 : 0, 1);
        }
        Due.rule(x, "likes 0;pays 0;tires not age=30;");
        Due.is("goesOn", x.goesOn(0, 0), 0);
        Due.is("judge", x.judge(0), 0);
        Due.is("drawn", x.drawn(1, 40), 0);
        Due.is("send", x.send(2, 1), 0);
    }

    @Says(of = 0, words = IMAGE)
    static void anImageOfNothing() {
        NotTwice x = new NotTwice();
        Due.is("none yet", x.back(), STATE);
        Due.is("of nobody", x.image(), 0);
        Scene.sit(x, 2, 5);
        x.story(0, 1, 0);
        x.hears(0, 0, 1);
        Scene.nights(x, 2);
        Due.is("back", x.back(), 0);
        Due.is("stories stay", x.count(0), 1);
        Due.is("people stay", x.count(1), 1);
        Due.is("where they sit", x.one(0, 0), 2);
        Due.is("with what they have heard", x.one(0, 3), 1);
    }
}
