import java.util.ArrayList;
import java.util.List;
import java.util.function.Supplier;
import java.util.function.ToLongFunction;

/** Refused calls change nothing: what is asked behind one is answered as it is without it. */
final class Refusals {
    private static final int MIN = Scene.MIN, MAX = Scene.MAX;
    private static final int NONE = -1, BAD = -2, STATE = -3, FULL = -4;
    private static final int MISSING = -11, OUTSIDE = -12, UNLIKE = -13, TOO_SMALL = -14;
    private static final long NO = -4611686018427387904L;
    private static final String REFUSALS = "Refusals, the first that the call's words name; they change nothing: BAD (-2: a number"
            + " is none such or not as told), STATE (-3), FULL (-4); the host's: -11 nothing where something is asked, -12 a place"
            + " outside, -13 a thing of another sort or KIND, -14 a size below 0.";

    private record Call(String name, long due, ToLongFunction<NotTwice> of) {
    }

    private Refusals() {
    }

    /** Something of everything: twins, two who have heard, two texts, three sheets, a half fed tape. */
    private static NotTwice unkept() {
        NotTwice x = new NotTwice();
        x.story(0, 5, 1);
        x.story(3, 4, 2);
        x.story(2, 3, 3);
        x.story(4, 2, 4);
        x.twin(0, 1);
        x.person(10, 15);
        x.person(40, 3);
        x.pass();
        x.hears(1, 2, 1);
        Scene.row(x, 0, 0, 10, 1, 20, 2);
        Scene.row(x, 1, 1, 130, 3, 240, 4);
        Scene.row(x, 2, 2, 350, 5, 399, 6);
        Due.rule(x, "likes 3;pays heard;tires 0;");
        Due.feed(x, "likes 2;pays 0;ti");
        return x;
    }

    /** The same with an image, from which it has gone on. */
    private static NotTwice some() {
        NotTwice x = unkept();
        x.image();
        x.hears(1, 3, 1);
        Scene.nights(x, 2);
        x.hears(0, 1, 1);
        x.set(0, 1, 1);
        x.set(0, 1, 0);
        return x;
    }

    /** No room is left for stories, people, texts and bytes. */
    static NotTwice full() {
        NotTwice x = Scene.stories(8);
        for (int p = 0; p < 8; p++) {
            Scene.sit(x, p % 4, 255);
        }
        x.hears(0, 0, 1);
        for (int text = 1; text < 6; text++) {
            Due.read(x, "likes " + text + ";pays 0;tires 0;");
        }
        x.force(1);
        Due.feed(x, "likes 1;pays 1;tires 1;" + " ".repeat(137));
        return x;
    }

    /** What an object answers; none of this changes it. */
    private static String look(NotTwice x) {
        List<Long> all = new ArrayList<>();
        for (int what = 0; what < 6; what++) {
            all.add((long) x.count(what));
            for (int s = 0; s < x.count(0) && s < 5; s++) {
                all.add((long) x.told(s, what, 13));
            }
        }
        for (int p = 0; p < x.count(1); p++) {
            for (int what = 0; what < 5; what++) {
                all.add((long) x.one(p, what));
            }
        }
        for (int house = 0; house < 4; house++) {
            all.add((long) x.may(house));
            all.add(x.most(house, 1));
            all.add((long) x.judge(house));
        }
        all.add((long) x.spread(2, 0));
        all.add((long) x.left());
        all.add((long) x.drawn(3, 40));
        return all.toString();
    }

    /** What shows the tape, the sheets, since when, the image: it changes the object. */
    private static String then(NotTwice x) {
        List<Long> all = new ArrayList<>();
        Due.feed(x, "res 0;");
        all.add((long) x.text());
        all.add((long) x.force(2));
        all.add(x.worth(0, 3));
        for (int sheet = 0; sheet < 4; sheet++) {
            for (int sort = 0; sort < 3; sort++) {
                all.add((long) x.people(sheet, sort, 0, 2));
                all.add((long) x.people(sheet, sort, 4, 1));
            }
        }
        for (int p = 0; p < x.count(1); p++) {
            all.add(x.one(p, 0) * 100000L + x.one(p, 1) * 1000L + x.one(p, 2));
        }
        all.add((long) x.force(0));
        for (int night = 0; night < 32; night++) {
            all.add((long) x.pass());
            all.add((long) x.one(0, 3));
            all.add((long) x.one(1, 3));
        }
        all.add((long) x.back());
        all.add((long) x.count(5));
        all.add((long) x.one(1, 0));
        all.add((long) x.one(1, 3));
        return all.toString();
    }

    /** Each call alone, on an object that is like another one on which it is not made. */
    private static void changeNothing(Supplier<NotTwice> like, List<Call> calls) {
        NotTwice without = like.get();
        String look = look(without);
        String then = then(without);
        for (Call call : calls) {
            NotTwice x = like.get();
            Due.is(call.name, call.of.applyAsLong(x), call.due);
            Due.holds(call.name + " changes nothing that can be asked", look(x).equals(look));
            Due.holds(call.name + " changes nothing", then(x).equals(then));
        }
    }

    private static List<Call> refused() {
        List<Call> calls = new ArrayList<>();
        for (int v : new int[] {MIN, -1, 400, MAX}) {
            calls.add(new Call("story of kind " + v, BAD, x -> x.story(v, 1, 1)));
            calls.add(new Call("story worth " + v, BAD, x -> x.story(1, v, 1)));
            calls.add(new Call("story of number " + v, BAD, x -> x.story(1, 1, v)));
            calls.add(new Call("twin of " + v, BAD, x -> x.twin(v, 2)));
            calls.add(new Call("twin to " + v, BAD, x -> x.twin(0, v)));
            calls.add(new Call("person at " + v, BAD, x -> x.person(v, 1)));
            calls.add(new Call("person who tells " + v, BAD, x -> x.person(1, v)));
            for (int what = 0; what < 3; what++) {
                int it = what;
                calls.add(new Call("set " + it + " to " + v, BAD, x -> x.set(it, 0, v)));
                calls.add(new Call("set " + it + " of " + v, BAD, x -> x.set(it, v, 1)));
            }
            calls.add(new Call("set what " + v, BAD, x -> x.set(v, 0, 1)));
            calls.add(new Call("hears, who " + v, BAD, x -> x.hears(v, 0, 1)));
            calls.add(new Call("hears what " + v, BAD, x -> x.hears(0, v, 1)));
            calls.add(new Call("hears, is " + v, BAD, x -> x.hears(0, 0, v)));
            calls.add(new Call("feed " + v, BAD, x -> x.feed(v)));
            calls.add(new Call("force " + v, BAD, x -> x.force(v)));
            calls.add(new Call("tell in " + v, BAD, x -> x.tell(v, 2)));
            calls.add(new Call("tell what " + v, BAD, x -> x.tell(0, v)));
        }
        calls.add(new Call("twin of itself", BAD, x -> x.twin(0, 0)));
        calls.add(new Call("tell one that is known", STATE, x -> x.tell(0, 2)));
        calls.add(new Call("tell where nobody is", STATE, x -> x.tell(3, 0)));
        return calls;
    }

    @Says(of = 0, words = REFUSALS)
    static void refusedCallsChangeNothing() {
        changeNothing(Refusals::some, refused());
    }

    private static List<Call> refusedByTheHost() {
        List<Call> calls = new ArrayList<>();
        for (int v : new int[] {MIN, -2, 4, 41, MAX}) {
            calls.add(new Call("no sheet " + v, BAD, x -> x.sheet(v, 0, 1)));
            calls.add(new Call("no sheet missing " + v, BAD, x -> x.sheet(v, -1, 1)));
            calls.add(new Call("sheet of sort " + v, BAD, x -> x.sheet(0, v, 1)));
            calls.add(new Call("sheet of size " + v, v < 0 ? TOO_SMALL : v > 40 ? BAD : 1, x -> x.sheet(v == 4 ? 1 : 0,
                    v == 4 ? -1 : 0, v) == 1 ? again(x) : v < 0 ? TOO_SMALL : BAD));
            calls.add(new Call("cell of " + v, BAD, x -> x.cell(v, 0, 9)));
            calls.add(new Call("cell at " + v, OUTSIDE, x -> x.cell(1, v, 9)));
            calls.add(new Call("cell of a missing one", MISSING, x -> x.cell(3, v, 9)));
            calls.add(new Call("copy of " + v, BAD, x -> x.copy(v, 0, 1, 0, 1)));
            calls.add(new Call("copy to " + v, BAD, x -> x.copy(1, 0, v, 0, 1)));
            calls.add(new Call("copy from place " + v, OUTSIDE, x -> x.copy(1, v, 1, 0, 1)));
            calls.add(new Call("copy to place " + v, OUTSIDE, x -> x.copy(1, 0, 1, v, 1)));
            calls.add(new Call("copy many " + v, OUTSIDE, x -> x.copy(1, 0, 1, 1, v)));
            calls.add(new Call("copy to unlike ones", UNLIKE, x -> x.copy(1, 0, 2, 0, 1)));
            calls.add(new Call("copy of a missing one", MISSING, x -> x.copy(3, 0, 2, 0, 1)));
            calls.add(new Call("people by " + v, BAD, x -> x.people(v, 1, 0, 1)));
            calls.add(new Call("people of sort " + v, BAD, x -> x.people(1, v, 0, 1)));
            calls.add(new Call("people from place " + v, OUTSIDE, x -> x.people(1, 1, v, 1)));
            calls.add(new Call("people by another sort", UNLIKE, x -> x.people(1, 2, 0, 1)));
            calls.add(new Call("people by a missing one", MISSING, x -> x.people(3, 2, 0, 1)));
        }
        for (int n : new int[] {MIN, -1, 9, MAX}) {
            calls.add(new Call("people, so many: " + n, BAD, x -> x.people(1, 1, 0, n)));
        }
        return calls;
    }

    /** Sheet 1 is laid again as it was. */
    private static long again(NotTwice x) {
        Scene.row(x, 1, 1, 130, 3, 240, 4);
        return 1;
    }

    @Says(of = 0, words = REFUSALS)
    static void callsRefusedByTheHostChangeNothing() {
        changeNothing(Refusals::some, refusedByTheHost());
    }

    @Says(of = 0, words = REFUSALS)
    static void callsWithoutRoomChangeNothing() {
        NotTwice without = full();
        String look = look(without);
        List<Call> calls = List.of(new Call("a ninth story", FULL, x -> x.story(0, 1, 0)),
                new Call("a ninth story, wrong", BAD, x -> x.story(6, 1, 0)),
                new Call("a ninth of the people", FULL, x -> x.person(0, 1)),
                new Call("a ninth of the people, wrong", BAD, x -> x.person(0, 256)),
                new Call("a byte more", FULL, x -> x.feed(59)), new Call("a byte more, wrong", BAD, x -> x.feed(256)),
                new Call("a text more", FULL, NotTwice::text), new Call("no such text", BAD, x -> x.force(6)));
        for (Call call : calls) {
            NotTwice x = full();
            Due.is(call.name, call.of.applyAsLong(x), call.due);
            Due.holds(call.name + " changes nothing", look(x).equals(look));
        }
    }

    @Says(of = 0, words = REFUSALS)
    static void backWithoutAnImageChangesNothing() {
        changeNothing(Refusals::unkept, List.of(new Call("back", STATE, NotTwice::back),
                new Call("tell one alone", STATE, x -> x.tell(3, 0))));
    }

    @Says(of = 0, words = REFUSALS)
    static void theFaceHasTheNumbersOfRefusals() {
        Due.is("BAD", NotTwice.BAD, -2);
        Due.is("STATE", NotTwice.STATE, -3);
        Due.is("FULL", NotTwice.FULL, -4);
        NotTwice x = full();
        Due.is("a house that is none", x.may(4), NotTwice.BAD);
        Due.is("no image", x.back(), NotTwice.STATE);
        Due.is("a ninth story", x.story(0, 0, 0), NotTwice.FULL);
        Due.is("nobody there", new NotTwice().keepAway(0), NotTwice.NONE);
        Due.is("no worth", new NotTwice().most(0, 1), NotTwice.NO);
    }

    @Says(of = 0, words = REFUSALS)
    static void theFirstRefusalIsAnswered() {
        NotTwice x = full();
        Due.is("BAD ahead of FULL", x.story(0, 10, 0), BAD);
        Due.is("BAD ahead of FULL", x.person(0, -1), BAD);
        Due.is("BAD ahead of FULL", x.feed(-1), BAD);
        NotTwice y = some();
        Due.is("BAD ahead of STATE", y.tell(4, 0), BAD);
        Due.is("BAD ahead of STATE", y.tell(3, 4), BAD);
        Due.is("BAD ahead of NONE", y.by(4, 0), BAD);
        Due.is("BAD ahead of NONE", y.by(3, 4), BAD);
        Due.is("BAD ahead of -14", y.sheet(4, 0, -1), BAD);
        Due.is("BAD ahead of -14", y.sheet(0, 3, -1), BAD);
        Due.is("BAD ahead of -11", y.judge(4), BAD);
        Due.is("BAD ahead of -11", y.taken(4, 6), BAD);
        Due.is("-11 ahead of -12", y.cell(3, -1, 0), MISSING);
        Due.is("-11 ahead of -12", y.copy(3, -1, 0, -1, -1), MISSING);
        Due.is("-13 ahead of -12", y.copy(0, -1, 1, -1, -1), UNLIKE);
        Due.is("-13 ahead of -12", y.people(0, 1, -1, 8), UNLIKE);
        Due.is("-11 ahead of -12", y.people(3, 1, -1, 8), MISSING);
        Due.is("BAD ahead of -13", y.people(0, 1, 0, 9), BAD);
        Due.is("BAD ahead of -11", y.people(3, 1, 0, 9), BAD);
    }

    @Says(of = 0, words = {"GOES ON:", "WORTH MOST in a HOUSE:", "SPREAD:", "KEEP AWAY:", "SEND:", "JUDGED:", "DRAWN by a SEED:"})
    static void whatIsOnlyAskedChangesNothing() {
        List<Call> calls = new ArrayList<>();
        calls.add(new Call("told", 5, x -> x.told(0, 1, 0)));
        calls.add(new Call("one", 15, x -> x.one(0, 2)));
        calls.add(new Call("may", 3, x -> x.may(0)));
        calls.add(new Call("by", 0, x -> x.by(0, 0)));
        calls.add(new Call("worth", 4, x -> x.worth(0, 0)));
        calls.add(new Call("most", 0, x -> x.most(0, 0)));
        calls.add(new Call("goesOn", 1, x -> x.goesOn(0, 0)));
        calls.add(new Call("spread", 1, x -> x.spread(4, NONE)));
        calls.add(new Call("keepAway", 0, x -> x.keepAway(0)));
        calls.add(new Call("send", 0, x -> x.send(0, 0)));
        calls.add(new Call("stranger", 2, x -> x.stranger(1, 50, 255) + 2));
        calls.add(new Call("left", 0, NotTwice::left));
        calls.add(new Call("judge", 0, x -> x.judge(0)));
        calls.add(new Call("drawn", 0, x -> x.drawn(1, 0)));
        calls.add(new Call("drawn", 1, x -> x.drawn(1, 40) > 0 ? 1 : 0));
        calls.add(new Call("count", 4, x -> x.count(0)));
        calls.add(new Call("taken", 4, x -> x.taken(3, 0)));
        calls.add(new Call("no worth", NO, x -> x.worth(4, 0)));
        changeNothing(Refusals::some, calls);
    }
}
