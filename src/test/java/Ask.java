/** Every call of the face by a number: those of the document's face, in its order, from 0. */
final class Ask {
    static final int CALLS = 32;

    private Ask() {
    }

    static long of(NotTwice x, int which, int a, int b, int c, int d, int e) {
        switch (which) {
            case 0: return x.story(a, b, c);
            case 1: return x.twin(a, b);
            case 2: return x.person(a, b);
            case 3: return x.set(a, b, c);
            case 4: return x.hears(a, b, c);
            case 5: return x.told(a, b, c);
            case 6: return x.one(a, b);
            case 7: return x.feed(a);
            case 8: return x.text();
            case 9: return x.force(a);
            case 10: return x.may(a);
            case 11: return x.by(a, b);
            case 12: return x.worth(a, b);
            case 13: return x.most(a, b);
            case 14: return x.tell(a, b);
            case 15: return x.pass();
            case 16: return x.goesOn(a, b);
            case 17: return x.spread(a, b);
            case 18: return x.keepAway(a);
            case 19: return x.send(a, b);
            case 20: return x.stranger(a, b, c);
            case 21: return x.left();
            case 22: return x.judge(a);
            case 23: return x.drawn(a, b);
            case 24: return x.image();
            case 25: return x.back();
            case 26: return x.count(a);
            case 27: return x.sheet(a, b, c);
            case 28: return x.cell(a, b, c);
            case 29: return x.copy(a, b, c, d, e);
            case 30: return x.people(a, b, c, d);
            default: return x.taken(a, b);
        }
    }
}
