/** The promises one by one: ordinary calls, the edges that the document names, wrong calls. */
public final class PromisesTest {
    private static final int MIN = Scene.MIN, MAX = Scene.MAX;
    private static final int NONE = -1, BAD = -2, STATE = -3, FULL = -4;
    private static final long NO = NotTwice.NO;

    private PromisesTest() {
    }

    public static void main(String[] args) {
        newObject();
        story();
        twin();
        person();
        set();
        hears();
        told();
        one();
        feed();
        text();
        force();
        may();
        by();
        worth();
        most();
        tell();
        pass();
        goesOn();
        spread();
        keepAway();
        send();
        stranger();
        left();
        judge();
        drawn();
        image();
        back();
        count();
        sheet();
        cell();
        copy();
        people();
        taken();
        Due.close("PromisesTest");
    }

    private static void newObject() {
        NotTwice x = new NotTwice();
        Due.is("1: no stories", x.count(0), 0);
        Due.is("1: nobody", x.count(1), 0);
        Due.is("1: night 0", x.count(2), 0);
        Due.is("1: text 0 alone", x.count(3), 1);
        Due.is("1: an empty tape", x.count(4), 0);
        Due.is("1: text 0 is the rule", x.count(5), 0);
        Due.is("1: no image", x.back(), STATE);
        for (int sheet = 0; sheet < 4; sheet++) {
            Due.is("1: sheets are missing", x.cell(sheet, 0, 0), -11);
        }
    }

    private static void story() {
        NotTwice x = new NotTwice();
        int[][] wrong = {{-1, 0, 0}, {6, 0, 0}, {0, -1, 0}, {0, 10, 0}, {0, 0, -1}, {0, 0, 10}, {MIN, 0, 0}, {MAX, 0, 0}};
        for (int[] w : wrong) {
            Due.is("2: story, wrong", x.story(w[0], w[1], w[2]), BAD);
        }
        Due.is("2: wrong ones change nothing", x.count(0), 0);
        for (int i = 0; i < 8; i++) {
            Due.is("2: story", x.story(i % 6, 9, 9), i);
        }
        Due.is("2: a ninth", x.story(0, 0, 0), FULL);
        Due.is("2: BAD ahead of FULL", x.story(6, 0, 0), BAD);
        Due.is("2: eight", x.count(0), 8);
    }

    private static void twin() {
        NotTwice x = Scene.stories(5);
        Due.is("3: none at first", x.told(0, 3, 0), NONE);
        Due.is("3: twin", x.twin(0, 1), 1);
        Due.is("3: again", x.twin(1, 0), 1);
        Due.is("3: of one", x.told(0, 3, 0), 1);
        Due.is("3: of the other", x.told(1, 3, 0), 0);
        Due.is("3: two more", x.twin(2, 3), 1);
        Due.is("3: across", x.twin(1, 2), 1);
        Due.is("3: 0 is left", x.told(0, 3, 0), NONE);
        Due.is("3: 3 is left", x.told(3, 3, 0), NONE);
        Due.is("3: 1 has 2", x.told(1, 3, 0), 2);
        Due.is("3: 2 has 1", x.told(2, 3, 0), 1);
        int[][] wrong = {{0, 0}, {-1, 0}, {0, -1}, {5, 0}, {0, 5}, {MIN, MAX}};
        for (int[] w : wrong) {
            Due.is("3: twin, wrong", x.twin(w[0], w[1]), BAD);
        }
        Due.is("3: wrong ones change nothing", x.told(1, 3, 0), 2);
        x.person(0, 0);
        x.hears(0, 2, 1);
        Due.is("3: twins count as one", x.one(0, 4), 6);
        x.twin(2, 4);
        Due.is("3: from now on", x.one(0, 4), 20);
        x.twin(0, 1);
        Due.is("3: other twins do not matter", x.one(0, 4), 20);
    }

    private static void person() {
        NotTwice x = new NotTwice();
        int[][] wrong = {{-1, 0}, {400, 0}, {0, -1}, {0, 256}, {MIN, 0}, {MAX, 0}, {0, MIN}, {0, MAX}};
        for (int[] w : wrong) {
            Due.is("4: person, wrong", x.person(w[0], w[1]), BAD);
        }
        Due.is("4: wrong ones change nothing", x.count(1), 0);
        Due.is("4: person", x.person(399, 255), 0);
        Due.is("4: house", x.one(0, 0), 3);
        Due.is("4: age", x.one(0, 1), 99);
        Due.is("4: tells", x.one(0, 2), 255);
        Due.is("4: has heard none", x.one(0, 3), 0);
        for (int i = 1; i < 8; i++) {
            Due.is("4: person", x.person(100, i), i);
        }
        Due.is("4: house, age 0", x.one(1, 0) * 100 + x.one(1, 1), 100);
        Due.is("4: a ninth", x.person(0, 0), FULL);
        Due.is("4: BAD ahead of FULL", x.person(400, 0), BAD);
    }

    private static void set() {
        NotTwice x = new NotTwice();
        x.person(142, 7);
        x.person(0, 0);
        Due.is("5: house", x.set(0, 0, 3), 1);
        Due.is("5: age", x.set(1, 0, 99), 42);
        Due.is("5: tells", x.set(2, 0, 255), 7);
        Due.is("5: house is", x.set(0, 0, 0), 3);
        Due.is("5: age is", x.set(1, 0, 0), 99);
        Due.is("5: tells is", x.set(2, 0, 0), 255);
        int[][] wrong = {{0, 2, 0}, {0, -1, 0}, {-1, 0, 0}, {3, 0, 0}, {0, 0, 4}, {0, 0, -1}, {1, 0, 100}, {1, 0, -1},
            {2, 0, 256}, {2, 0, -1}, {MIN, MAX, MIN}};
        for (int[] w : wrong) {
            Due.is("5: set, wrong", x.set(w[0], w[1], w[2]), BAD);
        }
        Due.is("5: others stay", x.one(1, 0) + x.one(1, 1) + x.one(1, 2), 0);
        Due.is("5: house of one", x.one(0, 0), 0);
        Due.is("5: age of one", x.one(0, 1), 0);
        Due.is("5: tells of one", x.one(0, 2), 0);
    }

    private static void hears() {
        NotTwice x = Scene.stories(2);
        x.person(0, 0);
        Due.is("6: had not", x.hears(0, 1, 1), 0);
        Due.is("6: has heard", x.one(0, 3), 2);
        Due.is("6: had", x.hears(0, 1, 1), 1);
        Due.is("6: had, and has not", x.hears(0, 1, 0), 1);
        Due.is("6: had not, and has not", x.hears(0, 1, 0), 0);
        Due.is("6: has not heard", x.one(0, 3), 0);
        int[][] wrong = {{1, 0, 1}, {-1, 0, 1}, {0, 2, 1}, {0, -1, 1}, {0, 0, 2}, {0, 0, -1}};
        for (int[] w : wrong) {
            Due.is("6: hears, wrong", x.hears(w[0], w[1], w[2]), BAD);
        }
        Due.is("6: wrong ones change nothing", x.one(0, 3), 0);
        x.hears(0, 0, 1);
        Scene.nights(x, 20);
        x.hears(0, 0, 1);
        Scene.nights(x, 29);
        Due.is("6: heard again, since then", x.one(0, 3), 1);
        x.pass();
        Due.is("6: and forgotten then", x.one(0, 3), 0);
    }

    private static void told() {
        NotTwice x = new NotTwice();
        for (int kind = 0; kind < 6; kind++) {
            x.story(kind, 7, 4);
        }
        int[] stays = {30, 34, 15, 14, 30, 34};
        int[] young = {7, 9, 14, 4, 18, 9};
        int[] grown = {7, 9, 7, 4, 11, 9};
        int[] aged = {7, 9, 7, 4, 11, 14};
        for (int kind = 0; kind < 6; kind++) {
            Due.is("7: kind", x.told(kind, 0, 0), kind);
            Due.is("7: worth", x.told(kind, 1, 0), 7);
            Due.is("7: number", x.told(kind, 2, 99), 4);
            Due.is("7: twin", x.told(kind, 3, 99), NONE);
            Due.is("7: stays", x.told(kind, 4, 0), stays[kind]);
            Due.is("7: counts at 13", x.told(kind, 5, 13), young[kind]);
            Due.is("7: counts at 14", x.told(kind, 5, 14), grown[kind]);
            Due.is("7: counts at 59", x.told(kind, 5, 59), grown[kind]);
            Due.is("7: counts at 60", x.told(kind, 5, 60), aged[kind]);
        }
        int[][] wrong = {{6, 0, 0}, {-1, 0, 0}, {0, 6, 0}, {0, -1, 0}, {0, 0, 100}, {0, 0, -1}, {MAX, MIN, MAX}};
        for (int[] w : wrong) {
            Due.is("7: told, wrong", x.told(w[0], w[1], w[2]), BAD);
        }
        NotTwice least = new NotTwice();
        least.story(3, 0, 0);
        least.story(3, 9, 9);
        Due.is("7: a half one stays 10 at least", least.told(0, 4, 0), 10);
        Due.is("7: a half one stays 19 at most", least.told(1, 4, 0), 19);
        Due.is("7: a half one of 0", least.told(0, 5, 0), 1);
        Due.is("7: a half one of 9, cut", least.told(1, 5, 0), 5);
    }

    private static void one() {
        NotTwice x = Scene.stories(3);
        x.person(256, 129);
        Due.is("8: house", x.one(0, 0), 2);
        Due.is("8: age", x.one(0, 1), 56);
        Due.is("8: tells, also of stories that are not", x.one(0, 2), 129);
        Due.is("8: heard", x.one(0, 3), 0);
        x.twin(0, 2);
        x.hears(0, 2, 1);
        Due.is("8: heard one", x.one(0, 3), 4);
        Due.is("8: knows two", x.one(0, 4), 5);
        int[][] wrong = {{1, 0}, {-1, 0}, {0, 5}, {0, -1}, {MAX, MIN}};
        for (int[] w : wrong) {
            Due.is("8: one, wrong", x.one(w[0], w[1]), BAD);
        }
    }

    private static void feed() {
        NotTwice x = new NotTwice();
        Due.is("9: feed, below", x.feed(-1), BAD);
        Due.is("9: feed, above", x.feed(256), BAD);
        for (int i = 0; i < 160; i++) {
            Due.is("9: feed", x.feed(i % 2 == 0 ? 0 : 255), i + 1);
        }
        Due.is("9: feed, too many", x.feed(0), FULL);
        Due.is("9: BAD ahead of FULL", x.feed(256), BAD);
        Due.is("9: the tape is as it was", x.count(4), 160);
        Due.is("9: the first byte begins nothing", x.text(), -100);
        Due.is("9: the tape is empty", x.count(4), 0);
    }

    private static void fault(String text, int place) {
        NotTwice x = new NotTwice();
        Due.is("10: fault of '" + text + "'", Due.read(x, text), -100 - place);
        Due.is("10: the tape is empty by a fault", x.count(4), 0);
        Due.is("10: no text came by a fault", x.count(3), 1);
    }

    /** What a likes comes to for one of 40 who has heard none and can tell two of three stories. */
    private static void value(String e, int due) {
        NotTwice x = new NotTwice();
        x.story(0, 6, 0);
        x.person(70, 255);
        x.person(40, 5);
        x.person(350, 0);
        x.pass();
        x.pass();
        x.pass();
        Due.rule(x, "likes " + e + ";pays 0;tires 0;");
        Due.is("10: " + e, x.worth(0, 0), due);
    }

    private static void text() {
        NotTwice x = new NotTwice();
        String good = "likes 1;pays 2;tires 0;";
        for (int i = 1; i < 6; i++) {
            Due.is("10: text", Due.read(x, good), i);
            Due.is("10: the tape is empty", x.count(4), 0);
        }
        Due.feed(x, "likes");
        Due.is("10: no room, ahead of all", x.text(), FULL);
        Due.is("10: the tape stays", x.count(4), 5);
        Due.is("10: six", x.count(3), 6);

        NotTwice blanks = new NotTwice();
        Due.is("10: blanks", Due.read(blanks, "\n likes\n1 ;pays 2\n;  tires(0);\n "), 1);
        Due.is("10: no blanks needed", Due.read(blanks, "likes1or1;pays-1;tires(1);"), 2);
        Due.is("10: a fault deep inside", Due.read(blanks, "likes ((((("), -111);
        Due.is("10: does not stay open", Due.read(blanks, "likes (((((1)))));pays -----1;tires 0;"), 3);
        Due.is("10: letters stand behind", Due.read(blanks, "likesworthheard"), -100);
        Due.is("10: the tape was emptied of them", Due.read(blanks, "likes"), -105);
        Due.is("10: nor does its code", Due.read(blanks, "likes 1 + 2 + 3 @"), -116);
        Due.is("10: as before", Due.read(blanks, "likes 1;pays 1;tires 0;"), 4);
        textFaults();
        textDepth();
        textValues();
    }

    private static void textFaults() {
        fault("", 0);
        fault("   ", 3);
        fault("likes", 5);
        fault("likes ", 6);
        fault("likes 1;pays 2;tires 0", 22);
        fault("likes 1;pays 2;tires 0 ", 23);
        fault("likes 1;pays 2;tires 0;;", 23);
        fault("likes 1;pays 2;tires 0; x", 24);
        fault("likes 1;pays 2;tires 0;likes 1;", 23);
        fault("pays 1;", 0);
        fault("likes 1;likes 1;", 8);
        fault("likes 1 2", 8);
        fault("likes ;", 6);
        fault("likes 1+;", 8);
        fault("likes +1;", 6);
        fault("likes *1;", 6);
        fault("likes 1<2<3;", 9);
        fault("likes 1=2<3;", 9);
        fault("likes 1+not 1;", 8);
        fault("likes -not 1;", 7);
        fault("likes 1<not 1;", 8);
        fault("likes 1 or;", 10);
        fault("likes or 1;", 6);
        fault("likes (1;", 8);
        fault("likes 1);", 7);
        fault("likes ();", 7);
        fault("likes likes;", 6);
        fault("likes ages;", 6);
        fault("likes ag;", 6);
        fault("likes e;", 6);
        fault("likesworth;", 0);
        fault("likesz 1;", 0);
        fault("zlikes 1;", 0);
        fault("likes 12345;", 6);
        fault("likes 00001;", 6);
        fault("likes 1 @", 8);
        fault("Likes 1;", 0);
        fault("likes\t1;", 5);
        fault("likes\r1;", 5);
        fault("likes " + (char) 0 + "1;", 6);
        fault("likes " + (char) 233 + "1;", 6);
        fault("likes 1 ) @", 8);
        fault("likes 9999 12345", 11);
        fault("likes age worth;", 10);
        fault("likes not;", 9);
        fault("likes not not", 13);
        fault("likes 1 and", 11);
        fault("likes 1 > 2", 8);
        fault("likes 1;pays 2;tires", 20);
    }

    private static void textDepth() {
        value("(((((7)))))", 7);
        fault("likes ((((((7", 11);
        value("-----7", 0);
        fault("likes ------7", 11);
        value("not not not not not 0", 1);
        fault("likes not not not not not not 0", 26);
        fault("likes not not not not not (0", 26);
        fault("likes not not not not not 1 < (0", 30);
        value("not not not not not 1 < 0 or (((((3)))))", 1);
        value("((((( 8 - 1 )))))", 7);
        fault("likes ((((( - 1", 12);
        fault("likes ((((( 8 - - 1", 16);
        value("(((((1)+(2))+(3))+(4))+(5))", 15);
        value("((((-1+(2)))))", 1);
        value("----(7)", 7);
        fault("likes -----(7)", 11);
        fault("likes (not (not (- 1)));", 17);
        value("(not (not -1))", 1);
        value("0or1and0<0+1*(".repeat(5) + "0or1and0<0+1*7" + ")))))", 1);
        // 31 values wait here at once; its answer is another one if the innermost are lost.
        value("1or1and1<0+0*(0or3and4<1+3*(1or3and0<4+0*(0or2and1<1+3*(1or3and2<4+1*(1or3and0<0+1*2)))))", 1);
        value("- 1 + (((((9)))))", 8);
        value("- 1 * - 1 * - 1 * - 1 * - 1 * - 1", 1);
    }

    private static void textValues() {
        value("age", 40);
        value("worth", 6);
        value("heard", 0);
        value("many", 2);
        value("night", 3);
        value("own", 2);
        value("2+3*4", 14);
        value("(2+3)*4", 20);
        value("20-5-4", 11);
        value("20-(5-4)", 19);
        value("5 or 0", 1);
        value("0 or 0", 0);
        value("5 and 3", 1);
        value("5 and 0", 0);
        value("5", 5);
        value("(5)", 5);
        value("1 or 0 and 0", 1);
        value("0 and 0 or 1", 1);
        value("not 1 or 1", 1);
        value("not 5", 0);
        value("not 0 = 1", 1);
        value("not 1 and 0", 0);
        value("1 < 2", 1);
        value("2 < 2", 0);
        value("2 = 2", 1);
        value("1 + 1 = 4 - 2", 1);
        value("0 - 1 < 0", 1);
        value("(1 < 2) + (2 = 2) + (3 < 2)", 2);
        value("- 3 + 10", 7);
        value("- (3 - 10)", 7);
        value("0099", 99);
        value("100", 99);
        value("9999", 99);
        value("0 - 1", 0);
        value("9999*9999*9999", 0);
        value("9999*9999*9999 < 0", 1);
        value("9999*9999*43 = 4172*1000+747", 1);
        value("(2048*2048*512 = 0-2048*2048*512) + 3", 4);
    }

    private static void force() {
        NotTwice x = new NotTwice();
        x.story(0, 5, 0);
        x.person(50, 1);
        x.person(50, 0);
        Due.is("11: text 0", x.force(0), 0);
        Due.is("11: by the first rule", x.worth(0, 0), 3);
        Due.read(x, "likes 50;pays 4;tires 0;");
        Due.is("11: a text is no rule yet", x.worth(0, 0), 3);
        Due.is("11: force", x.force(1), 0);
        Due.is("11: by another", x.worth(0, 0), 54);
        Due.is("11: none such", x.force(2), BAD);
        Due.is("11: none such", x.force(-1), BAD);
        Due.is("11: none such", x.force(MAX), BAD);
        Due.is("11: which was", x.force(0), 1);
        Due.is("11: by the first rule again", x.worth(0, 0), 3);
    }

    private static void may() {
        NotTwice x = Scene.stories(4);
        x.person(0, 7);
        Due.is("12: others must sit there", x.may(0), 0);
        x.person(0, 8);
        Due.is("12: may", x.may(0), 15);
        Due.is("12: elsewhere", x.may(1), 0);
        x.hears(1, 0, 1);
        Due.is("12: one of them knows it", x.may(0), 14);
        x.hears(0, 1, 1);
        Due.is("12: the teller may know it", x.may(0), 14);
        x.hears(0, 3, 1);
        Due.is("12: another teller's", x.may(0), 6);
        x.twin(2, 3);
        x.hears(1, 3, 1);
        Due.is("12: a twin of it", x.may(0), 2);
        x.set(0, 1, 1);
        Due.is("12: out of the house", x.may(0), 0);
        Due.is("12: wrong", x.may(4), BAD);
        Due.is("12: wrong", x.may(-1), BAD);
        NotTwice y = Scene.stories(1);
        y.person(0, 255);
        y.person(0, 0);
        y.person(0, 0);
        Due.is("12: just stories that are", y.may(0), 1);
        Due.rule(y, "likes 1;pays 1;tires many=3;");
        Due.is("12: tired", y.may(0), 0);
        NotTwice z = Scene.stories(2);
        z.person(0, 3);
        z.person(0, 0);
        z.person(0, 0);
        z.person(0, 0);
        z.person(100, 3);
        z.person(100, 0);
        z.hears(0, 0, 1);
        z.hears(1, 0, 1);
        z.hears(2, 1, 1);
        Due.is("12: two know the one, one knows the other", z.may(0), 0);
        Due.is("12: other houses do not matter", z.may(1), 3);
        y.set(0, 2, 1);
        Due.is("12: not tired among fewer", y.may(0), 1);
    }

    private static void by() {
        NotTwice x = Scene.stories(2);
        x.person(0, 0);
        x.person(0, 1);
        x.person(0, 3);
        Due.is("13: the first", x.by(0, 0), 1);
        Due.is("13: the one who can", x.by(0, 1), 2);
        x.hears(2, 0, 1);
        Due.is("13: the one who knows it", x.by(0, 0), 2);
        x.hears(1, 0, 1);
        Due.is("13: two know it", x.by(0, 0), NONE);
        Due.is("13: elsewhere", x.by(1, 0), NONE);
        int[][] wrong = {{4, 0}, {-1, 0}, {0, 2}, {0, -1}};
        for (int[] w : wrong) {
            Due.is("13: by, wrong", x.by(w[0], w[1]), BAD);
        }
        Due.rule(x, "likes 1;pays 1;tires own=2;");
        Due.is("13: tired", x.by(0, 1), NONE);
    }

    private static void worth() {
        NotTwice x = new NotTwice();
        x.story(2, 4, 0);
        x.story(0, 9, 0);
        x.person(40, 1);
        x.person(13, 0);
        x.person(14, 0);
        x.person(105, 2);
        Due.is("14: worth", x.worth(0, 0), 4 * 2 + 2 + 4 - 3);
        Due.is("14: nobody tells it there", x.worth(0, 1), NO);
        Due.is("14: elsewhere", x.worth(1, 1), NO);
        int[][] wrong = {{4, 0}, {-1, 0}, {0, 2}, {0, -1}};
        for (int[] w : wrong) {
            Due.is("14: worth, wrong", x.worth(w[0], w[1]), NO);
        }
        Due.rule(x, "likes 98+age*(age=13);pays 99+worth;tires 0;");
        Due.is("14: bounds above", x.worth(0, 0), 99 + 98 + 99);
        Due.rule(x, "likes 0-age*7;pays 0-99-worth;tires 0;");
        Due.is("14: bounds below", x.worth(0, 0), -99);
        Due.rule(x, "likes 0;pays 0-98;tires 0;");
        Due.is("14: within the bounds", x.worth(0, 0), -98);
        Due.rule(x, "likes heard*10;pays own*3;tires 0;");
        x.hears(1, 1, 1);
        x.set(2, 0, 255);
        Due.is("14: heard, own", x.worth(0, 0), 10 + 24);
        NotTwice y = new NotTwice();
        y.story(0, 5, 0);
        y.person(10, 0);
        y.person(20, 1);
        Due.is("14: the first hears the second", y.worth(0, 0), 7 - 2);
    }

    private static void most() {
        NotTwice x = new NotTwice();
        x.story(0, 3, 0);
        x.story(0, 7, 0);
        x.story(0, 7, 0);
        x.story(0, 9, 0);
        x.person(20, 7);
        Due.is("15: alone", x.most(0, 0), NO);
        x.person(20, 0);
        Due.is("15: the first of like ones", x.most(0, 0), 1);
        Due.is("15: its worth", x.most(0, 1), 5);
        Due.is("15: wrong, though there is one", x.most(0, 2), NO);
        Due.is("15: wrong, though there is one", x.most(0, -1), NO);
        x.hears(1, 1, 1);
        Due.is("15: the next one", x.most(0, 0), 2);
        x.hears(1, 2, 1);
        Due.is("15: the last one", x.most(0, 0), 0);
        Due.is("15: its worth", x.most(0, 1), 1);
        Due.rule(x, "likes 0;pays 0-50;tires 0;");
        Due.is("15: below 0", x.most(0, 1), -50);
        x.hears(1, 0, 1);
        Due.is("15: there is none", x.most(0, 0), NO);
        Due.is("15: there is none", x.most(0, 1), NO);
        int[][] wrong = {{4, 0}, {-1, 0}, {0, 2}, {0, -1}};
        for (int[] w : wrong) {
            Due.is("15: most, wrong", x.most(w[0], w[1]), NO);
        }
    }

    private static void tell() {
        NotTwice x = Scene.stories(2);
        x.person(0, 1);
        x.person(0, 1);
        x.person(0, 1);
        x.person(100, 1);
        Due.is("16: tell", x.tell(0, 0), 2);
        Due.is("16: not the teller", x.one(0, 3), 0);
        Due.is("16: another", x.one(1, 3), 1);
        Due.is("16: another", x.one(2, 3), 1);
        Due.is("16: not elsewhere", x.one(3, 3), 0);
        Due.is("16: again", x.tell(0, 0), STATE);
        Due.is("16: nobody can", x.tell(0, 1), STATE);
        Due.is("16: alone", x.tell(1, 0), STATE);
        int[][] wrong = {{4, 0}, {-1, 0}, {0, 2}, {0, -1}};
        for (int[] w : wrong) {
            Due.is("16: tell, wrong", x.tell(w[0], w[1]), BAD);
        }
        NotTwice y = Scene.stories(1);
        y.person(0, 0);
        y.person(0, 1);
        Scene.nights(y, 7);
        y.tell(0, 0);
        Scene.nights(y, 29);
        Due.is("16: since the night", y.one(0, 3), 1);
        y.pass();
        Due.is("16: since the night", y.one(0, 3), 0);
    }

    private static void pass() {
        NotTwice x = new NotTwice();
        for (int kind = 0; kind < 6; kind++) {
            x.story(kind, 0, 2);
        }
        x.person(0, 0);
        for (int s = 0; s < 6; s++) {
            x.hears(0, s, 1);
        }
        int[] gone = {30, 32, 15, 12, 30, 32};
        for (int night = 1; night <= 40; night++) {
            Due.is("17: pass", x.pass(), night);
            int due = 0;
            for (int s = 0; s < 6; s++) {
                due |= night < gone[s] ? 1 << s : 0;
            }
            Due.is("17: heard in night " + night, x.one(0, 3), due);
        }
        Due.is("17: the night", x.count(2), 40);
    }

    private static void goesOn() {
        NotTwice x = Scene.stories(4);
        x.person(0, 11);
        Due.is("18: alone", x.goesOn(0, 0), 0);
        x.person(0, 0);
        Due.is("18: how many", x.goesOn(0, 0), 3);
        Due.is("18: the set", x.goesOn(0, 1), 11);
        x.twin(0, 3);
        Due.is("18: one of twins", x.goesOn(0, 0), 2);
        Due.is("18: the least", x.goesOn(0, 1), 3);
        Due.is("18: nothing is told by it", x.one(1, 3), 0);
        Due.is("18: elsewhere", x.goesOn(1, 1), 0);
        int[][] wrong = {{4, 0}, {-1, 0}, {0, 2}, {0, -1}};
        for (int[] w : wrong) {
            Due.is("18: goesOn, wrong", x.goesOn(w[0], w[1]), BAD);
        }
        NotTwice y = Scene.stories(3);
        y.person(0, 6);
        y.person(0, 1);
        Due.rule(y, "likes 1;pays 1;tires (own=2) and (heard<1);");
        Due.is("18: nothing but 0 may be told now", y.may(0), 1);
        Due.is("18: by what was told ahead", y.goesOn(0, 1), 7);
        Due.rule(y, "likes 1;pays 1;tires heard=1;");
        Due.is("18: what tires, too", y.goesOn(0, 1), 6);
        y.person(100, 0);
        y.person(100, 0);
        y.may(1);
        Due.is("18: other houses do not matter", y.goesOn(0, 1), 6);
    }

    private static void spread() {
        NotTwice x = Scene.stories(1);
        Due.is("19: nobody", x.spread(4, NONE), 0);
        Due.is("19: nobody", x.spread(4, 0), BAD);
        x.person(0, 1);
        Due.is("19: one alone", x.spread(4, NONE), 0);
        Due.is("19: one alone", x.spread(4, 0), 0);
        x.person(0, 1);
        x.person(0, 0);
        x.person(0, 0);
        Due.is("19: two houses", x.spread(2, NONE), 2);
        int[] due = {1, 0, 1, 0};
        for (int p = 0; p < 4; p++) {
            Due.is("19: the least way has its lowest digit first", x.spread(2, p), due[p]);
            Due.is("19: one house", x.spread(1, p), 0);
            Due.is("19: they sit where they sat", x.one(p, 0), 0);
        }
        Due.is("19: one house", x.spread(1, NONE), 1);
        x.person(0, 0);
        x.person(0, 0);
        Due.is("19: 4096 ways", x.spread(4, NONE), 2);
        x.person(0, 0);
        Due.is("19: 16384 ways", x.spread(4, NONE), BAD);
        Due.is("19: 2187 ways", x.spread(3, 0), 1);
        x.person(0, 0);
        Due.is("19: 6561 ways", x.spread(3, NONE), BAD);
        Due.is("19: 256 ways", x.spread(2, NONE), 2);
        int[][] wrong = {{0, NONE}, {5, NONE}, {2, 8}, {2, -2}, {-1, NONE}, {MAX, 0}};
        for (int[] w : wrong) {
            Due.is("19: spread, wrong", x.spread(w[0], w[1]), BAD);
        }
        NotTwice y = Scene.stories(1);
        for (int p = 0; p < 4; p++) {
            y.person(0, 1);
        }
        Due.rule(y, "likes 1;pays 1;tires many=2;");
        Due.is("19: tired among two", y.spread(2, NONE), 1);
        Due.is("19: three of four, or all", y.spread(2, 0), 0);
        y.hears(1, 0, 1);
        y.hears(2, 0, 1);
        Due.is("19: two who know it sit apart", y.spread(2, 1) + y.spread(2, 2), 1);
        NotTwice z = Scene.stories(2);
        z.person(0, 2);
        z.person(0, 0);
        z.person(0, 0);
        z.person(0, 1);
        z.hears(0, 0, 1);
        z.hears(1, 1, 1);
        z.hears(3, 0, 1);
        Due.is("19: by what others know", z.spread(2, NONE), 2);
        int[] apart = {1, 0, 1, 0};
        for (int p = 0; p < 4; p++) {
            Due.is("19: by what others know", z.spread(2, p), apart[p]);
        }
        z.set(2, 0, 1);
        z.hears(3, 0, 0);
        Due.is("19: a teller may know it", z.spread(1, NONE), 1);
        z.hears(2, 0, 1);
        Due.is("19: two know it", z.spread(1, NONE), 0);
    }

    private static void keepAway() {
        NotTwice x = Scene.stories(3);
        Due.is("20: nobody is there", x.keepAway(0), NONE);
        x.person(0, 7);
        Due.is("20: one alone", x.keepAway(0), 0);
        x.person(0, 0);
        x.person(0, 0);
        Due.is("20: of like ones the first", x.keepAway(0), 1);
        x.hears(2, 0, 1);
        Due.is("20: who knows one", x.keepAway(0), 2);
        Due.is("20: nobody is kept away by it", x.one(2, 0), 0);
        Due.is("20: elsewhere", x.keepAway(1), NONE);
        Due.is("20: wrong", x.keepAway(4), BAD);
        Due.is("20: wrong", x.keepAway(-1), BAD);
        NotTwice y = Scene.stories(1);
        y.person(300, 0);
        y.person(0, 1);
        y.person(0, 0);
        y.person(0, 0);
        Due.rule(y, "likes 1;pays 1;tires many=3;");
        Due.is("20: there is one less to tire by", y.keepAway(0), 2);
        Due.rule(y, "likes 1;pays 1;tires not age=5;");
        y.set(1, 1, 5);
        Due.is("20: by their ages", y.keepAway(0), 2);
    }

    private static void send() {
        NotTwice x = Scene.stories(3);
        x.person(0, 7);
        Due.is("21: nobody anywhere", x.send(0, 0), 0);
        Due.is("21: nobody anywhere", x.send(0, 1), 0);
        x.person(200, 0);
        x.person(300, 0);
        Due.is("21: of like ones the first", x.send(0, 0), 2);
        Due.is("21: how many", x.send(0, 1), 3);
        x.hears(1, 0, 1);
        Due.is("21: where fewer are known", x.send(0, 0), 3);
        Due.is("21: one sits where one sat", x.one(0, 0), 0);
        Due.is("21: by that very one", x.send(1, 1), 0);
        int[][] wrong = {{3, 0}, {-1, 0}, {0, 2}, {0, -1}};
        for (int[] w : wrong) {
            Due.is("21: send, wrong", x.send(w[0], w[1]), BAD);
        }
        x.person(300, 7);
        Due.is("21: also if another could, too", x.send(0, 1), 3);
        Due.rule(x, "likes 1;pays 1;tires many=3;");
        Due.is("21: tired where many are", x.send(0, 0), 2);
        Due.is("21: how many there", x.send(0, 1), 2);
    }

    private static void stranger() {
        NotTwice x = Scene.stories(3);
        Due.is("22: to nobody", x.stranger(0, 50, 255), 0);
        x.person(0, 1);
        Due.is("22: brings own ones, and ears", x.stranger(0, 50, 6), 3);
        Due.is("22: brings ears", x.stranger(0, 50, 0), 1);
        x.person(0, 0);
        Due.is("22: what might be told without", x.stranger(0, 50, 7), 2);
        x.hears(1, 2, 1);
        Due.is("22: knows it, somebody", x.stranger(0, 50, 7), 1);
        Due.is("22: nobody came by it", x.count(1), 2);
        int[][] wrong = {{4, 0, 0}, {-1, 0, 0}, {0, 100, 0}, {0, -1, 0}, {0, 0, 256}, {0, 0, -1}};
        for (int[] w : wrong) {
            Due.is("22: stranger, wrong", x.stranger(w[0], w[1], w[2]), BAD);
        }
        Due.rule(x, "likes 1;pays 1;tires many=3 and not age=77;");
        Due.is("22: fewer", x.stranger(0, 50, 0), -1);
        Due.is("22: the stranger's age", x.stranger(0, 77, 2), 0);
        NotTwice y = Scene.stories(1);
        for (int p = 0; p < 8; p++) {
            y.person(0, 0);
        }
        Due.is("22: a ninth", y.stranger(0, 0, 1), 1);
        Due.rule(y, "likes 1;pays 1;tires not many=9;");
        Due.is("22: nine there", y.stranger(0, 0, 1), 1);
        Due.is("22: one there", y.stranger(1, 0, 1), 0);
    }

    private static void left() {
        NotTwice x = new NotTwice();
        Due.is("23: nothing", x.left(), 0);
        x = Scene.stories(4);
        Due.is("23: nobody", x.left(), 15);
        x.person(0, 15);
        Due.is("23: to tell is not to know", x.left(), 15);
        x.hears(0, 1, 1);
        Due.is("23: one known", x.left(), 13);
        x.twin(1, 3);
        Due.is("23: and a twin", x.left(), 5);
        x.person(300, 0);
        x.hears(1, 0, 1);
        Due.is("23: by another", x.left(), 4);
    }

    private static void judge() {
        NotTwice x = Scene.stories(2);
        x.person(0, 3);
        x.person(0, 0);
        x.person(300, 1);
        x.person(300, 0);
        Due.is("24: missing", x.judge(0), -11);
        Due.is("24: no such sheet", x.judge(4), BAD);
        Due.is("24: no such sheet", x.judge(-1), BAD);
        for (int sort = 0; sort < 3; sort++) {
            Scene.row(x, 0, sort);
            Due.is("24: no rows", x.judge(0), NONE);
            Scene.row(x, 0, sort, 0, 0, 3, 0, 0, 1);
            Due.is("24: all may", x.judge(0), NONE);
            Due.is("24: none is told by it", x.one(1, 3), 0);
            Scene.row(x, 0, sort, 0, 0, 3, 0, 0, 0);
            Due.is("24: told twice", x.judge(0), 2);
            Scene.row(x, 0, sort, 0, 0, 4, 0);
            Due.is("24: no such house", x.judge(0), 1);
            Scene.row(x, 0, sort, 0, 0, 0, 1, 0, -1);
            Due.is("24: no such story", x.judge(0), 2);
            Scene.row(x, 0, sort, 0, 2);
            Due.is("24: no such story", x.judge(0), 0);
            Scene.row(x, 0, sort, 3, 1, 4, 4);
            Due.is("24: the first", x.judge(0), 0);
            Scene.row(x, 0, sort, 0, 0, 0);
            Due.is("24: odd", x.judge(0), BAD);
        }
    }

    private static void drawn() {
        NotTwice x = Scene.stories(1);
        Due.is("25: nobody", x.drawn(1, 40), 0);
        x.person(0, 1);
        Due.is("25: alone", x.drawn(1, 40), 0);
        x.person(300, 0);
        Due.is("25: no nights", x.drawn(1, 0), 0);
        Due.is("25: below", x.drawn(1, -1), BAD);
        Due.is("25: above", x.drawn(1, 41), BAD);
        int[] seeds = {0, 1, 2, 7, -1, 123456789, MIN, MAX};
        for (int seed : seeds) {
            for (int n = 0; n <= 40; n++) {
                Due.is("25: drawn(" + seed + ", " + n + ")", x.drawn(seed, n), drawnForTwo(seed, n));
            }
        }
        Due.is("25: the night is as it was", x.count(2), 0);
        Due.is("25: nobody has heard it", x.one(1, 3), 0);
        Due.is("25: they sit where they sat", x.one(0, 0) * 10 + x.one(1, 0), 3);
        NotTwice y = Scene.stories(2);
        y.person(0, 3);
        y.person(0, 0);
        Due.is("25: two stories at most, in 40 nights of which 30 last", y.drawn(5, 40), drawnOfMost(5, 40));
    }

    /** One tells one story, one hears it: it is told when they meet, not again for 30 nights. */
    private static int drawnForTwo(int seed, int n) {
        int z = seed;
        int told = 0;
        int since = -30;
        for (int night = 0; night < n; night++) {
            z = z * 1103515245 + 12345;
            int one = (z >>> 8) % 4;
            z = z * 1103515245 + 12345;
            int other = (z >>> 8) % 4;
            if (one == other && night - since >= 30) {
                told++;
                since = night;
            }
        }
        return told;
    }

    private static int drawnOfMost(int seed, int n) {
        int z = seed;
        int told = 0;
        int[] since = {-30, -30};
        for (int night = 0; night < n; night++) {
            z = z * 1103515245 + 12345;
            int one = (z >>> 8) % 4;
            z = z * 1103515245 + 12345;
            int other = (z >>> 8) % 4;
            int s = night - since[0] >= 30 ? 0 : night - since[1] >= 30 ? 1 : 2;
            if (one == other && s < 2) {
                told++;
                since[s] = night;
            }
        }
        return told;
    }

    private static void image() {
        NotTwice x = Scene.stories(1);
        Due.is("26: image", x.image(), 0);
        Scene.nights(x, 3);
        Due.is("26: the image of night 0", x.back(), 0);
        Scene.nights(x, 4);
        Due.is("26: another image", x.image(), 4);
        x.pass();
        Due.is("26: the newest one", x.back(), 4);
        Due.is("26: as often as one likes", x.back(), 4);
    }

    private static void back() {
        NotTwice x = Scene.stories(2);
        x.person(110, 3);
        x.person(120, 0);
        Due.is("27: there is none", x.back(), STATE);
        Due.read(x, "likes 1;pays 1;tires 0;");
        Scene.nights(x, 5);
        x.hears(1, 0, 1);
        Scene.nights(x, 2);
        x.image();
        x.force(1);
        x.pass();
        x.hears(1, 0, 1);
        x.hears(1, 1, 1);
        x.hears(0, 1, 1);
        x.set(0, 0, 3);
        x.set(1, 0, 33);
        x.set(2, 1, 77);
        x.twin(0, 1);
        x.person(245, 9);
        x.hears(2, 1, 1);
        Scene.nights(x, 6);
        Due.is("27: back", x.back(), 7);
        Due.is("27: the night", x.count(2), 7);
        Due.is("27: the rule", x.count(5), 0);
        Due.is("27: texts stay", x.count(3), 2);
        Due.is("27: houses", x.one(0, 0) * 10 + x.one(1, 0), 11);
        Due.is("27: ages are not kept", x.one(0, 1), 33);
        Due.is("27: nor what one tells", x.one(1, 2), 77);
        Due.is("27: nor twins", x.told(0, 3, 0), 1);
        Due.is("27: heard", x.one(1, 3), 1);
        Due.is("27: heard", x.one(0, 3), 0);
        Due.is("27: who came since stays", x.count(1), 3);
        Due.is("27: in the house", x.one(2, 0), 2);
        Due.is("27: with what was heard", x.one(2, 3), 2);
        Scene.nights(x, 27);
        Due.is("27: heard since when, before", x.one(1, 3), 1);
        x.pass();
        Due.is("27: heard since when", x.one(1, 3), 0);
        Due.is("27: it stays to be gone back to", x.back(), 7);
        Due.is("27: heard again", x.one(1, 3), 1);
    }

    private static void count() {
        NotTwice x = Scene.stories(3);
        x.person(0, 0);
        x.person(0, 0);
        Scene.nights(x, 7);
        Due.read(x, "likes 1;pays 1;tires 0;");
        Due.read(x, "likes 1;pays 1;tires 0;");
        Due.read(x, "likes 1;pays 1;tires 0;");
        x.force(2);
        Due.feed(x, "abcde");
        int[] due = {3, 2, 7, 4, 5, 2};
        for (int what = 0; what < 6; what++) {
            Due.is("28: count(" + what + ")", x.count(what), due[what]);
        }
        Due.is("28: wrong", x.count(6), BAD);
        Due.is("28: wrong", x.count(-1), BAD);
    }

    private static void sheet() {
        NotTwice x = Scene.stories(1);
        Due.is("29: no such sheet", x.sheet(4, 0, 1), BAD);
        Due.is("29: no such sheet", x.sheet(-1, -1, 1), BAD);
        Due.is("29: no such sort", x.sheet(0, 3, 1), BAD);
        Due.is("29: no such sort", x.sheet(0, -2, 1), BAD);
        Due.is("29: too long", x.sheet(0, 0, 41), BAD);
        Due.is("29: too long", x.sheet(0, 0, MAX), BAD);
        Due.is("29: a size below 0", x.sheet(0, 0, -1), -14);
        Due.is("29: a size below 0", x.sheet(0, 2, MIN), -14);
        Due.is("29: BAD ahead of -14", x.sheet(0, 3, -1), BAD);
        Due.is("29: wrong ones change nothing", x.judge(0), -11);
        Due.is("29: the longest", x.sheet(3, 2, 40), 1);
        Due.is("29: its last", x.cell(3, 39, 1), 1);
        Due.is("29: behind its last", x.cell(3, 40, 1), -12);
        Due.is("29: the shortest", x.sheet(3, 2, 0), 1);
        Due.is("29: it has none", x.cell(3, 0, 1), -12);
        Due.is("29: n does not matter", x.sheet(3, -1, -5), 1);
        Due.is("29: n does not matter", x.sheet(3, -1, 41), 1);
        Due.is("29: missing", x.judge(3), -11);
        x.person(0, 1);
        x.person(0, 0);
        Scene.row(x, 0, 2, 9, 9);
        Due.is("29: none such", x.judge(0), 0);
        x.sheet(0, 2, 2);
        Due.is("29: all 0 again", x.judge(0), NONE);
    }

    private static void cell() {
        NotTwice x = new NotTwice();
        Due.is("30: no such sheet", x.cell(4, 0, 0), BAD);
        Due.is("30: no such sheet", x.cell(-1, 0, 0), BAD);
        Due.is("30: missing", x.cell(0, 99, 0), -11);
        x.sheet(0, 0, 4);
        Due.is("30: outside", x.cell(0, -1, 0), -12);
        Due.is("30: outside", x.cell(0, 4, 0), -12);
        Due.is("30: outside", x.cell(0, MAX, 0), -12);
        Due.is("30: cell", x.cell(0, 3, 5), 1);
        Scene.row(x, 0, 0, 256 + 42, 512 + 3, 200, 0, -56, 0);
        Due.is("30: of bytes the lowest 8 bits", x.people(0, 0, 0, 3), 1);
        Due.is("30: of bytes", x.one(0, 1) * 1000 + x.one(0, 2), 42003);
        Scene.row(x, 0, 1, 65536 * 3 + 343, 65536 + 200, 65535, 0);
        Due.is("30: of shorts the lowest 16 bits", x.people(0, 1, 0, 2), 1);
        Due.is("30: of shorts", x.one(1, 0) * 100000 + x.one(1, 1) * 1000 + x.one(1, 2), 343200);
        Scene.row(x, 0, 2, 65536 * 3 + 343, 65536 + 200, 343, 200);
        Due.is("30: of ints all bits", x.people(0, 2, 0, 2), 1);
    }

    private static void copy() {
        NotTwice x = new NotTwice();
        Due.is("31: no such sheet", x.copy(4, 0, 0, 0, 0), BAD);
        Due.is("31: no such sheet", x.copy(0, 0, -1, 0, 0), BAD);
        Due.is("31: both missing", x.copy(0, 0, 1, 0, 0), -11);
        Scene.row(x, 0, 2, 1, 2, 3, 4, 5, 6);
        Due.is("31: the other missing", x.copy(0, 0, 1, 0, 0), -11);
        Due.is("31: the one missing", x.copy(1, 9, 0, 0, -1), -11);
        x.sheet(1, 1, 6);
        Due.is("31: unlike sorts", x.copy(0, 0, 1, 0, 1), -13);
        Due.is("31: unlike sorts ahead of places", x.copy(0, 9, 1, 0, -1), -13);
        x.sheet(1, 2, 4);
        int[][] wrong = {{-1, 0, 1}, {0, -1, 1}, {6, 0, 1}, {0, 4, 1}, {0, 0, 5}, {3, 0, 4}, {0, 1, 4}, {0, 0, -1},
            {7, 0, 0}, {0, 5, 0}, {MAX, 0, 1}, {1, 0, MAX}, {0, MAX, MAX}, {MIN, MIN, MIN}};
        for (int[] w : wrong) {
            Due.is("31: outside", x.copy(0, w[0], 1, w[1], w[2]), -12);
        }
        Due.is("31: none", x.copy(0, 6, 1, 4, 0), 0);
        Due.is("31: copy", x.copy(0, 2, 1, 0, 4), 4);
        Due.is("31: 3, 4 came", x.people(1, 2, 0, 2), 2);
        Due.is("31: 3", x.one(0, 1), 3);
        Due.is("31: 4", x.one(0, 2), 4);
        Due.is("31: 5", x.one(1, 1), 5);
        Due.is("31: 6", x.one(1, 2), 6);
        Due.is("31: up within one", x.copy(0, 0, 0, 1, 5), 5);
        x.people(0, 2, 0, 3);
        Due.is("31: 1 1 2 3 4 5, as they were", digits(x, 2, 3), 112345);
        Scene.row(x, 0, 2, 1, 2, 3, 4, 5, 6);
        Due.is("31: down within one", x.copy(0, 1, 0, 0, 5), 5);
        x.people(0, 2, 0, 3);
        Due.is("31: 2 3 4 5 6 6, as they were", digits(x, 5, 3), 234566);
    }

    private static int digits(NotTwice x, int first, int n) {
        int all = 0;
        for (int p = first; p < first + n; p++) {
            all = 100 * all + 10 * x.one(p, 1) + x.one(p, 2);
        }
        return all;
    }

    private static void people() {
        NotTwice x = new NotTwice();
        Due.is("32: missing", x.people(0, 0, 0, 0), -11);
        Due.is("32: missing, whatever the place", x.people(0, 2, -5, 8), -11);
        Scene.row(x, 0, 1, 110, 1, 400, 1, 120, 256, 130, 2, -1, 0, 140, 3);
        int[][] wrong = {{4, 1, 0, 1}, {-1, 1, 0, 1}, {0, 3, 0, 1}, {0, -1, 0, 1}, {0, 1, 0, 9}, {0, 1, 0, -1}};
        for (int[] w : wrong) {
            Due.is("32: people, wrong", x.people(w[0], w[1], w[2], w[3]), BAD);
        }
        Due.is("32: taken for bytes", x.people(0, 0, 0, 0), -13);
        Due.is("32: taken for ints", x.people(0, 2, -9, 8), -13);
        Due.is("32: none", x.people(0, 1, 0, 0), 0);
        Due.is("32: none from anywhere", x.people(0, 1, -1, 0), 0);
        Due.is("32: outside", x.people(0, 1, -1, 1), -12);
        Due.is("32: outside", x.people(0, 1, 12, 1), -12);
        Due.is("32: outside", x.people(0, 1, MAX, 8), -12);
        Due.is("32: outside", x.people(0, 1, MIN, 8), -12);
        Due.is("32: nobody came", x.count(1), 0);
        Due.is("32: three came, others are left out", x.people(0, 1, 0, 6), 3);
        Due.is("32: the first", x.one(0, 1) * 10 + x.one(0, 2), 101);
        Due.is("32: the last", x.one(2, 1) * 10 + x.one(2, 2), 403);
        Due.is("32: the last goes outside", x.people(0, 1, 6, 4), -12);
        Due.is("32: what stood ahead came", x.count(1), 5);
        Due.is("32: half of one is outside", x.people(0, 1, 11, 1), -12);
        Due.is("32: from one that is odd", x.people(0, 1, 3, 1), 1);
        Due.is("32: its house, age", x.one(5, 0) * 100 + x.one(5, 1), 1);
        x.person(0, 0);
        Due.is("32: one more has room", x.people(0, 1, 0, 6), 1);
        Due.is("32: no more", x.people(0, 1, 0, 6), 0);
        Due.is("32: outside, though no more", x.people(0, 1, 0, 7), -12);
    }

    private static void taken() {
        NotTwice x = new NotTwice();
        for (int kind = 0; kind < 6; kind++) {
            x.story(kind, 0, kind + 2);
        }
        String[] under = {"0", "01", "02", "013", "024", "015"};
        for (int s = 0; s < 6; s++) {
            for (int k = 0; k < 6; k++) {
                boolean is = under[s].indexOf((char) ('0' + k)) >= 0;
                Due.is("33: taken(" + s + ", " + k + ")", x.taken(s, k), is ? s + 2 : -13);
            }
        }
        Due.is("33: no such kind", x.taken(0, 6), BAD);
        Due.is("33: no such kind", x.taken(0, -1), BAD);
        Due.is("33: no such kind, ahead", x.taken(6, 6), BAD);
        Due.is("33: no such story", x.taken(6, 0), -11);
        Due.is("33: no such story", x.taken(-1, 5), -11);
    }
}
