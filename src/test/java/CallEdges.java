/** Promises 1 to 28: what each call answers at the ends of what it takes, and which refusal stands ahead of which. */
final class CallEdges {
    private static final int MIN = Scene.MIN, MAX = Scene.MAX;
    private static final int NONE = -1, BAD = -2, STATE = -3, FULL = -4;
    private static final long NO = -4611686018427387904L;

    private CallEdges() {
    }

    @Says(of = 1, words = "Nobody, no STORIES; NIGHT 0.")
    static void aNewObjectBesideAFullOne() {
        NotTwice full = Refusals.full();
        NotTwice x = new NotTwice();
        int[] due = {0, 0, 0, 1, 0, 0};
        for (int what = 0; what < 6; what++) {
            Due.is("count " + what, x.count(what), due[what]);
        }
        Due.is("no image", x.back(), STATE);
        Due.is("nothing is left", x.left(), 0);
        for (int house = 0; house < 4; house++) {
            Due.is("may", x.may(house), 0);
            Due.is("goesOn", x.goesOn(house, 1), 0);
            Due.is("most", x.most(house, 0), NO);
            Due.is("keepAway", x.keepAway(house), NONE);
            Due.is("no sheet", x.judge(house), -11);
        }
        x.story(0, 9, 9);
        x.person(0, 255);
        x.hears(0, 0, 1);
        Due.is("the full one is as it was", full.one(0, 3), 1);
        Due.is("the full one's story", full.told(0, 1, 0), 1);
    }

    @Says(of = 2, words = "A STORY: its number. BAD; FULL.")
    static void storyRefused() {
        NotTwice x = new NotTwice();
        int[][] wrong = {{-1, 0, 0}, {6, 0, 0}, {0, -1, 0}, {0, 10, 0}, {0, 0, -1}, {0, 0, 10}, {MIN, MIN, MIN},
            {MAX, MAX, MAX}};
        for (int[] w : wrong) {
            Due.is("wrong", x.story(w[0], w[1], w[2]), BAD);
        }
        Due.is("the first", x.story(5, 9, 9), 0);
        for (int s = 1; s < 8; s++) {
            x.story(0, 0, 0);
        }
        Due.is("full", x.story(0, 0, 0), FULL);
        for (int[] w : wrong) {
            Due.is("wrong, ahead of full", x.story(w[0], w[1], w[2]), BAD);
        }
        Due.is("none came", x.count(0), 8);
    }

    @Says(of = 3, words = {"Two STORIES are TWINS of one another from now on (whose TWINS they were have none): 1.",
        "BAD (one and the same, too)."})
    static void twinParted() {
        NotTwice x = Scene.stories(8);
        Due.is("a pair", x.twin(0, 1), 1);
        Due.is("a pair", x.twin(2, 3), 1);
        Due.is("another pair", x.twin(6, 7), 1);
        Due.is("across two pairs", x.twin(3, 0), 1);
        int[] due = {3, NONE, NONE, 0, NONE, NONE, 7, 6};
        for (int s = 0; s < 8; s++) {
            Due.is("the twin of " + s, x.told(s, 3, 0), due[s]);
        }
        Due.is("the same pair again", x.twin(0, 3), 1);
        Due.is("still", x.told(0, 3, 0) * 10 + x.told(3, 3, 0), 30);
        Due.is("with one that has none", x.twin(4, 3), 1);
        Due.is("whose twin has none", x.told(0, 3, 0), NONE);
        Due.is("it has", x.told(3, 3, 0), 4);
        for (int s = 0; s < 8; s++) {
            Due.is("one and the same", x.twin(s, s), BAD);
        }
        Due.is("one that is not there", x.twin(8, 0), BAD);
        Due.is("one that is not there", x.twin(0, 8), BAD);
        Due.is("one and the same, not there", x.twin(8, 8), BAD);
        Due.is("no numbers", x.twin(-1, -1), BAD);
        Due.is("all as it was", x.told(3, 3, 0) * 10 + x.told(7, 3, 0), 46);
    }

    @Says(of = 4, words = "One of the PEOPLE (where: 100 times HOUSE, and AGE): the number. BAD; FULL.")
    static void personRefused() {
        Scene.range("where", 0, 399, BAD, v -> new NotTwice().person(v, 0));
        Scene.range("tells", 0, 255, BAD, v -> new NotTwice().person(0, v));
        NotTwice x = new NotTwice();
        int[] where = {0, 99, 100, 199, 200, 299, 300, 399};
        for (int p = 0; p < 8; p++) {
            Due.is("the number", x.person(where[p], 255 - p), p);
            Due.is("the house", x.one(p, 0), p / 2);
            Due.is("the age", x.one(p, 1), p % 2 == 0 ? 0 : 99);
            Due.is("tells", x.one(p, 2), 255 - p);
        }
        Due.is("full", x.person(0, 0), FULL);
        Due.is("wrong, ahead of full", x.person(400, 0), BAD);
        Due.is("wrong, ahead of full", x.person(-1, 0), BAD);
        Due.is("wrong, ahead of full", x.person(0, 256), BAD);
        Due.is("wrong, ahead of full", x.person(0, -1), BAD);
        Due.is("nobody came", x.count(1), 8);
    }

    @Says(of = 5, words = "HOUSE (what 0), AGE (1), TELLS (2) of one of the PEOPLE becomes v: what it was. BAD.")
    static void setToBothEnds() {
        int[] most = {3, 99, 255};
        for (int what = 0; what < 3; what++) {
            NotTwice x = new NotTwice();
            x.person(299, 7);
            x.person(100, 0);
            int was = x.one(0, what);
            Due.is("to the most", x.set(what, 0, most[what]), was);
            Due.is("to the least", x.set(what, 0, 0), most[what]);
            Due.is("it is", x.one(0, what), 0);
            for (int v : new int[] {MIN, -1, most[what] + 1, MAX}) {
                Due.is("to " + v, x.set(what, 0, v), BAD);
            }
            Due.is("it is still", x.one(0, what), 0);
            Due.is("nobody", x.set(what, 2, 0), BAD);
            Due.is("nobody", x.set(what, -1, 0), BAD);
            Due.is("another is as he was", x.one(1, 0) * 1000 + x.one(1, 1) * 10 + x.one(1, 2), 1000);
            for (int other = 1; other < 3; other++) {
                int it = (what + other) % 3;
                Due.is("another thing is as it was", x.one(0, it), it == 0 ? 2 : it == 1 ? 99 : 7);
            }
        }
        Scene.range("what", 0, 2, BAD, v -> Scene.house(1, 1).set(v, 0, 0));
    }

    @Says(of = 6, words = "One has HEARD a STORY since THE NIGHT (is 1), or has not (0): whether one had (1, 0). BAD.")
    static void hearsAndHasNot() {
        Scene.range("is", 0, 1, BAD, v -> Scene.house(1, 1).hears(0, 0, v));
        NotTwice x = Scene.house(2, 0);
        x.twin(0, 1);
        Due.is("had not, and has not", x.hears(0, 0, 0), 0);
        Due.is("had not", x.hears(0, 0, 1), 0);
        Due.is("had not heard the twin, though it is known", x.hears(0, 1, 0), 0);
        Scene.nights(x, 29);
        Due.is("had, since then", x.hears(0, 0, 1), 1);
        Scene.nights(x, 29);
        Due.is("still, since the night it was said again", x.one(0, 3), 1);
        Due.is("had, and has not", x.hears(0, 0, 0), 1);
        Due.is("had not, but has", x.hears(0, 0, 1), 0);
        Scene.nights(x, 29);
        Due.is("since then", x.one(0, 3), 1);
        x.pass();
        Due.is("had forgotten", x.hears(0, 0, 0), 0);
    }

    @Says(of = 7, words = {"Of a STORY: 0 KIND, 1 WORTH, 2 NUMBER, 3 TWIN (NONE), 4 STAYS, 5 COUNTS for an AGE.",
        "BAD (age 0 .. 99, also where it does not matter)."})
    static void toldOfAStory() {
        Scene.range("what", 0, 5, BAD, v -> Scene.stories(1).told(0, v, 0));
        NotTwice x = Scene.stories(7);
        x.story(5, 8, 6);
        x.twin(7, 2);
        int[] due = {5, 8, 6, 2, 36, 10};
        for (int what = 0; what < 6; what++) {
            Due.is("of one, for 0", x.told(7, what, 0), due[what]);
            Due.is("of one, for 99", x.told(7, what, 99), what == 5 ? 15 : due[what]);
            for (int age : new int[] {MIN, -1, 100, MAX}) {
                Due.is("for " + age, x.told(7, what, age), BAD);
            }
            Due.is("of none", x.told(8, what, 0), BAD);
            Due.is("of none", x.told(-1, what, 0), BAD);
        }
        Due.is("no twin", x.told(0, 3, 99), NONE);
    }

    @Says(of = 8, words = "Of one of the PEOPLE: 0 HOUSE, 1 AGE, 2 TELLS, 3 HEARD, 4 STORIES (bits) that one KNOWS. BAD.")
    static void oneOfThePeople() {
        Scene.range("what", 0, 4, BAD, v -> Scene.house(1, 1).one(0, v));
        NotTwice x = Scene.stories(8);
        for (int p = 0; p < 7; p++) {
            x.person(0, 0);
        }
        x.person(399, 255);
        x.twin(7, 0);
        x.hears(7, 7, 1);
        int[] due = {3, 99, 255, 128, 129};
        for (int what = 0; what < 5; what++) {
            Due.is("of the last", x.one(7, what), due[what]);
            Due.is("of the first", x.one(0, what), 0);
            Due.is("of nobody", x.one(8, what), BAD);
            Due.is("of nobody", x.one(-1, what), BAD);
        }
    }

    @Says(of = 9, words = "A byte (0 .. 255) comes behind THE TAPE: how many it has. BAD; FULL.")
    static void feedFromNoneToFull() {
        Scene.range("a byte", 0, 255, BAD, v -> new NotTwice().feed(v));
        NotTwice x = new NotTwice();
        for (int i = 0; i < 160; i++) {
            Due.is("wrong", x.feed(i % 2 == 0 ? -1 : 256), BAD);
            Due.is("how many", x.feed(i + 96), i + 1);
        }
        Due.is("full", x.feed(0), FULL);
        Due.is("full", x.feed(255), FULL);
        Due.is("wrong, ahead of full", x.feed(-1), BAD);
        Due.is("wrong, ahead of full", x.feed(256), BAD);
        Due.is("as many as before", x.count(4), 160);
    }

    @Says(of = 10, words = {"THE TAPE, which is empty then (by a FAULT, too), is a TEXT: its number; -100 less the place of its"
        + " FAULT."})
    static void textEmptiesTheTape() {
        NotTwice x = new NotTwice();
        Due.is("an empty tape", x.text(), -100);
        Due.is("a good one", Due.read(x, "likes 1;pays 1;tires 1;"), 1);
        Due.is("the tape is empty", x.count(4), 0);
        Due.is("and has nothing more to be read", x.text(), -100);
        Due.is("a fault", Due.read(x, "likes 1;pays 1;tires 1;@"), -123);
        Due.is("the tape is empty by it", x.count(4), 0);
        Due.is("no text came by it", x.count(3), 2);
        Due.is("fed anew", x.feed('l'), 1);
        Due.is("a word cut short", x.text(), -100);
        Due.is("the next has its own number", Due.read(x, "likes 1;pays 1;tires 1;"), 2);
        Due.is("the rule stays", x.count(5), 0);
        Due.is("a fault at the last place", Due.read(x, " ".repeat(159) + ";"), -259);
        Due.is("a fault behind it", Due.read(x, " ".repeat(160)), -260);
    }

    @Says(of = 10, words = "FULL (ahead of all): no TEXT more has room (THE TAPE stays).")
    static void textWithoutRoom() {
        NotTwice x = new NotTwice();
        for (int i = 1; i < 6; i++) {
            Due.is("room for " + i, Due.read(x, "likes 1;pays 1;tires 1;"), i);
        }
        Due.is("full, with an empty tape", x.text(), FULL);
        Due.feed(x, "likes @");
        Due.is("full, ahead of a fault", x.text(), FULL);
        Due.is("the tape stays", x.count(4), 7);
        Due.is("more can be fed", x.feed('1'), 8);
        Due.is("full", x.text(), FULL);
        Due.is("the tape stays", x.count(4), 8);
        Due.is("six texts", x.count(3), 6);
    }

    @Says(of = 11, words = "A TEXT is THE RULE: which was. BAD.")
    static void forceOfTextsThatAreThere() {
        Scene.range("the first alone", 0, 0, BAD, v -> new NotTwice().force(v));
        NotTwice x = Refusals.full();
        Due.is("the last is", x.force(5), 1);
        Due.is("the same again", x.force(5), 5);
        Due.is("none such", x.force(6), BAD);
        Due.is("none such", x.force(-1), BAD);
        Due.is("none such", x.force(MIN), BAD);
        Due.is("none such", x.force(MAX), BAD);
        Due.is("the rule stays", x.count(5), 5);
        Due.is("the first again", x.force(0), 5);
        Due.is("it is", x.count(5), 0);
        NotTwice y = new NotTwice();
        Due.read(y, "likes @");
        Due.is("one with a fault is none", y.force(1), BAD);
    }

    @Says(of = 12, words = "STORIES (bits) that MAY be told in a HOUSE. BAD.")
    static void mayFromNoneToAll() {
        Due.is("nobody, nothing", new NotTwice().may(0), 0);
        Due.is("nobody", Scene.stories(8).may(3), 0);
        Due.is("no stories", Scene.house(0, 255, 255).may(0), 0);
        NotTwice x = Scene.house(8, 85, 170);
        Due.is("all", x.may(0), 255);
        for (int house : new int[] {MIN, -1, 4, MAX}) {
            Due.is("no such house", x.may(house), BAD);
            Due.is("no such house, nobody", new NotTwice().may(house), BAD);
        }
        x.hears(0, 0, 1);
        Due.is("the first, known to the teller alone", x.may(0), 255);
        x.hears(0, 1, 1);
        Due.is("but the second", x.may(0), 253);
        x.hears(1, 6, 1);
        Due.is("but the seventh, too", x.may(0), 189);
    }

    @Says(of = 13, words = "BY WHOM. BAD; NONE.")
    static void byNobody() {
        NotTwice x = Scene.house(2, 1, 0, 0);
        Due.is("the first", x.by(0, 0), 0);
        Due.is("told by none", x.by(0, 1), NONE);
        Due.is("nobody there", x.by(3, 0), NONE);
        for (int wrong : new int[] {MIN, -1, 4, MAX}) {
            Due.is("no such house", x.by(wrong, 0), BAD);
            Due.is("no such house, story", x.by(wrong, 2), BAD);
        }
        for (int wrong : new int[] {MIN, -1, 2, 8, MAX}) {
            Due.is("no such story", x.by(0, wrong), BAD);
            Due.is("no such story, nobody there", x.by(3, wrong), BAD);
        }
        x.hears(1, 0, 1);
        Due.is("known to another", x.by(0, 0), NONE);
        NotTwice y = Scene.house(8, 0, 0, 0, 0, 0, 0, 0, 128);
        Due.is("the last story by the last of all", y.by(0, 7), 7);
    }

    @Says(of = 14, words = "WORTH of a STORY in a HOUSE. NO: none such; it may not be told there.")
    static void worthOfNone() {
        NotTwice x = Scene.house(2, 1, 0);
        Due.is("one that may be told", x.worth(0, 0), -1);
        Due.is("one that nobody tells", x.worth(0, 1), NO);
        Due.is("nobody there", x.worth(3, 0), NO);
        for (int wrong : new int[] {MIN, -1, 4, MAX}) {
            Due.is("no such house", x.worth(wrong, 0), NO);
        }
        for (int wrong : new int[] {MIN, -1, 2, 8, MAX}) {
            Due.is("no such story", x.worth(0, wrong), NO);
        }
        x.tell(0, 0);
        Due.is("told already", x.worth(0, 0), NO);
        Due.rule(x, "likes 0;pays 0;tires 0;");
        x.hears(1, 0, 0);
        Due.is("0 is a worth", x.worth(0, 0), 0);
    }

    @Says(of = 15, words = "WORTH MOST: the STORY (what 0), its WORTH (1). NO: none such; there is none.")
    static void mostOfNone() {
        Scene.range("what", 0, 1, NO, v -> Scene.house(1, 1, 0).most(0, v));
        Scene.range("house", 0, 0, NO, v -> Scene.house(1, 1, 0).most(v, 0));
        NotTwice x = Scene.house(1, 1, 0);
        Due.is("the story", x.most(0, 0), 0);
        Due.is("its worth", x.most(0, 1), -1);
        Due.is("nobody there", x.most(3, 0), NO);
        Due.is("nobody there", x.most(3, 1), NO);
        Due.rule(x, "likes 0;pays 0-99;tires 0;");
        Due.is("the least worth is one", x.most(0, 1), -99);
        Due.is("its story", x.most(0, 0), 0);
        x.tell(0, 0);
        Due.is("told already", x.most(0, 0), NO);
        Due.is("told already", x.most(0, 1), NO);
    }

    @Says(of = 16, words = "A STORY is TOLD in a HOUSE: how many heard it. BAD; STATE: it may not be told there.")
    static void tellRefused() {
        NotTwice x = Scene.house(2, 1, 0);
        for (int wrong : new int[] {MIN, -1, 4, MAX}) {
            Due.is("no such house", x.tell(wrong, 0), BAD);
        }
        for (int wrong : new int[] {MIN, -1, 2, 8, MAX}) {
            Due.is("no such story", x.tell(0, wrong), BAD);
            Due.is("no such story, where nobody is", x.tell(3, wrong), BAD);
        }
        Due.is("nobody there", x.tell(3, 0), STATE);
        Due.is("nobody tells it", x.tell(0, 1), STATE);
        Due.is("nobody has heard any", x.one(0, 3) + x.one(1, 3), 0);
        Due.is("told", x.tell(0, 0), 1);
        Due.is("told already", x.tell(0, 0), STATE);
        x.set(0, 1, 1);
        x.set(2, 1, 1);
        Due.is("one alone", x.tell(1, 0), STATE);
        for (int others = 1; others < 8; others++) {
            NotTwice y = Scene.house(1, 0);
            for (int p = 1; p <= others; p++) {
                Scene.sit(y, 0, 1);
            }
            Due.is("heard by all others", y.tell(0, 0), others);
            Due.is("by the first of all", y.one(0, 3), 1);
            Due.is("not by the teller", y.one(1, 3), 0);
        }
    }

    @Says(of = 17, words = "A NIGHT passes: THE NIGHT.")
    static void passOfTheFirstNights() {
        NotTwice x = new NotTwice();
        Due.is("the first", x.pass(), 1);
        Due.is("the second", x.pass(), 2);
        Due.is("it is", x.count(2), 2);
        Due.is("nobody forgets", x.count(1), 0);
        for (int night = 3; night <= 500; night++) {
            Due.is("on and on", x.pass(), night);
        }
    }

    @Says(of = 18, words = "GOES ON: how many (what 0), the set (1). BAD.")
    static void goesOnRefused() {
        Scene.range("what", 0, 1, BAD, v -> Scene.house(1, 1, 0).goesOn(0, v));
        Scene.range("house", 0, 3, BAD, v -> Scene.house(1, 1, 0).goesOn(v, 1));
        NotTwice x = Scene.house(8, 128, 0);
        Due.is("the last alone", x.goesOn(0, 0), 1);
        Due.is("its bit", x.goesOn(0, 1), 128);
        Due.is("wrong both", x.goesOn(4, 2), BAD);
    }

    @Says(of = 19, words = "SPREAD over h HOUSES: how many (person NONE), where one sits. BAD (also: there are too many ways).")
    static void spreadRefused() {
        NotTwice x = Scene.house(1, 1, 0, 0);
        Scene.range("houses", 1, 4, BAD, v -> Scene.house(1, 1, 0, 0).spread(v, NONE));
        Scene.range("who", NONE, 2, BAD, v -> Scene.house(1, 1, 0, 0).spread(4, v));
        Due.is("how many", x.spread(4, NONE), 1);
        Due.is("nobody, one asked", new NotTwice().spread(1, 0), BAD);
        for (int p = 3; p < 6; p++) {
            Scene.sit(x, 3, 0);
        }
        Due.is("6 over 4", x.spread(4, 5), 0);
        Scene.sit(x, 3, 0);
        Due.is("7 over 4", x.spread(4, 5), BAD);
        Due.is("7 over 4, how many", x.spread(4, NONE), BAD);
        Due.is("7 over 3", x.spread(3, 6), 0);
        Scene.sit(x, 3, 0);
        Due.is("8 over 3", x.spread(3, NONE), BAD);
        Due.is("8 over 2", x.spread(2, 7), 0);
        Due.is("8 over 1", x.spread(1, 7), 0);
    }

    @Says(of = 20, words = "KEEP AWAY. BAD; NONE.")
    static void keepAwayNobody() {
        NotTwice x = new NotTwice();
        for (int house = 0; house < 4; house++) {
            Due.is("nobody", x.keepAway(house), NONE);
        }
        for (int house : new int[] {MIN, -1, 4, MAX}) {
            Due.is("no such house", x.keepAway(house), BAD);
        }
        for (int p = 0; p < 8; p++) {
            x.person(p < 7 ? 0 : 300, 0);
        }
        Due.is("the last of all, alone in the last house", x.keepAway(3), 7);
        Due.is("nobody there", x.keepAway(2), NONE);
        Due.is("where nothing may be told, the first", x.keepAway(0), 0);
    }

    @Says(of = 21, words = "SEND: the HOUSE (what 0), how many (1). BAD.")
    static void sendRefused() {
        Scene.range("who", 0, 1, BAD, v -> Scene.house(1, 1, 0).send(v, 0));
        Scene.range("what", 0, 1, BAD, v -> Scene.house(1, 1, 0).send(0, v));
        NotTwice x = Scene.stories(8);
        Scene.sit(x, 0, 255);
        Scene.sit(x, 3, 0);
        Due.is("the last house", x.send(0, 0), 3);
        Due.is("all", x.send(0, 1), 8);
        Due.is("one with none to tell, the first house", x.send(1, 0), 0);
        Due.is("none", x.send(1, 1), 0);
        Due.is("nobody", x.send(2, 0), BAD);
        Due.is("nobody at all", new NotTwice().send(0, 1), BAD);
    }

    @Says(of = 22, words = {"A STRANGER.", "BAD (age 0 .. 99, tells 0 .. 255)."})
    static void strangerRefused() {
        Scene.range("house", 0, 3, BAD, v -> Scene.house(1, 1).stranger(v, 0, 0));
        Scene.range("age", 0, 99, BAD, v -> Scene.house(1, 1).stranger(0, v, 0));
        Scene.range("tells", 0, 255, BAD, v -> Scene.house(1, 1).stranger(0, 0, v));
        Due.is("where nobody is", new NotTwice().stranger(3, 99, 255), 0);
        NotTwice x = Scene.house(1, 0);
        Due.is("bits of stories that are not there", x.stranger(0, 0, 254), 0);
        Due.is("the bit of the one that is", x.stranger(0, 99, 255), 1);
    }

    @Says(of = 23, words = "LEFT.")
    static void leftOfAllAndOfNone() {
        Due.is("nothing at all", new NotTwice().left(), 0);
        NotTwice x = Scene.stories(8);
        Due.is("nobody to know", x.left(), 255);
        Scene.sit(x, 3, 255);
        for (int s = 0; s < 8; s++) {
            x.hears(0, s, 1);
        }
        Due.is("all known", x.left(), 0);
        Scene.nights(x, 30);
        Due.is("all forgotten", x.left(), 255);
    }

    @Says(of = 24, words = "JUDGED. BAD: SHEET; -11; BAD: its size is odd; NONE.")
    static void judgeRefused() {
        Scene.range("sheet", 0, 3, BAD, v -> new NotTwice().judge(v));
        NotTwice x = Scene.house(1, 1, 0);
        for (int sheet = 0; sheet < 4; sheet++) {
            Due.is("missing", x.judge(sheet), -11);
            for (int sort = 0; sort < 3; sort++) {
                for (int size : new int[] {1, 3, 39}) {
                    x.sheet(sheet, sort, size);
                    x.cell(sheet, 0, 9);
                    Due.is("odd, ahead of a row that is none such", x.judge(sheet), BAD);
                }
                x.sheet(sheet, sort, 0);
                Due.is("empty", x.judge(sheet), NONE);
                x.sheet(sheet, sort, 2);
                Due.is("a row that may be told", x.judge(sheet), NONE);
                x.sheet(sheet, sort, 40);
                Due.is("it may not be told again", x.judge(sheet), 1);
            }
            x.sheet(sheet, -1, 0);
            Due.is("missing again", x.judge(sheet), -11);
        }
    }

    @Says(of = 25, words = "DRAWN. BAD: n.")
    static void drawnRefused() {
        NotTwice x = Scene.house(1, 1, 0);
        for (int n : new int[] {MIN, -1, 41, MAX}) {
            for (int seed : new int[] {MIN, -1, 0, MAX}) {
                Due.is("drawn for " + n, x.drawn(seed, n), BAD);
            }
        }
        for (int seed : new int[] {MIN, -1, 0, MAX}) {
            Due.is("for no night", x.drawn(seed, 0), 0);
            int told = x.drawn(seed, 40);
            Due.holds("once or twice in 40 nights", told == 1 || told == 2);
        }
    }

    @Says(of = 26, words = "AN IMAGE is kept: THE NIGHT.")
    static void imageInPlaceOfAnother() {
        NotTwice x = Scene.house(1, 0);
        Due.is("of night 0", x.image(), 0);
        x.hears(0, 0, 1);
        Scene.nights(x, 5);
        Due.is("of night 5", x.image(), 5);
        x.hears(0, 0, 0);
        Scene.nights(x, 5);
        Due.is("the newer one", x.back(), 5);
        Due.is("as it was then", x.one(0, 3), 1);
        Due.is("the night goes on from there", x.pass(), 6);
        Due.is("kept again", x.image(), 6);
    }

    @Says(of = 27, words = {"All that it keeps is as in THE IMAGE: THE NIGHT.", "STATE: there is none."})
    static void backWithoutAndWith() {
        NotTwice x = Scene.house(1, 0);
        x.hears(0, 0, 1);
        x.pass();
        Due.is("there is none", x.back(), STATE);
        Due.is("the night stays", x.count(2), 1);
        Due.is("what is heard stays", x.one(0, 3), 1);
        Due.is("kept", x.image(), 1);
        Due.is("at once", x.back(), 1);
        Scene.nights(x, 40);
        for (int i = 0; i < 3; i++) {
            Due.is("as often as it is asked", x.back(), 1);
            Due.is("as it was", x.one(0, 3), 1);
            x.hears(0, 0, 0);
            x.pass();
        }
    }

    @Says(of = 28, words = {"How many: 0 STORIES, 1 PEOPLE, 2 THE NIGHT, 3 TEXTS, 4 bytes of THE TAPE, 5 THE RULE.", "BAD."})
    static void countFromNoneToAll() {
        Scene.range("what", 0, 5, BAD, v -> new NotTwice().count(v));
        NotTwice x = Refusals.full();
        int[] due = {8, 8, 0, 6, 160, 1};
        for (int what = 0; what < 6; what++) {
            Due.is("count " + what, x.count(what), due[what]);
        }
    }
}
