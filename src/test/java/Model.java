import java.util.ArrayList;
import java.util.List;
import java.util.Map;
import java.util.TreeMap;
import java.util.TreeSet;

/** The document once more, said as plainly as can be and without care for time or room. */
final class Model {
    static final long NO = -4611686018427387904L;

    static final class Story {
        int kind;
        int worth;
        int number;
        Story twin;
    }

    static final class Person {
        int house;
        int age;
        int tells;
        Map<Integer, Integer> heard = new TreeMap<>();

        Person copy() {
            Person p = new Person();
            p.house = house;
            p.age = age;
            p.tells = tells;
            p.heard = new TreeMap<>(heard);
            return p;
        }
    }

    /** An expression, of: age worth heard many night own. */
    interface Expr {
        int at(int[] names);
    }

    static final class Fault extends Exception {
        private static final long serialVersionUID = 1L;
        final int place;

        Fault(int place) {
            this.place = place;
        }
    }

    final List<Story> stories = new ArrayList<>();
    List<Person> people = new ArrayList<>();
    int night = 0;
    int rule = 0;
    final List<Expr[]> texts = new ArrayList<>();
    String tape = "";
    List<Person> imagePeople = null;
    int imageNight;
    int imageRule;
    final Object[] sheets = new Object[4];

    Model() {
        try {
            texts.add(new Parser("likes worth + ( age < 14 ) * 2 ; pays 0 - many ; tires own < 1 ;").text());
        } catch (Fault f) {
            throw new IllegalStateException(f);
        }
    }

    static boolean in(int v, int from, int to) {
        return from <= v && v <= to;
    }

    boolean isStory(int s) {
        return in(s, 0, stories.size() - 1);
    }

    boolean isPerson(int p) {
        return in(p, 0, people.size() - 1);
    }

    static boolean isHouse(int h) {
        return in(h, 0, 3);
    }

    // ---- stories, people

    int story(int kind, int worth, int number) {
        if (!in(kind, 0, 5) || !in(worth, 0, 9) || !in(number, 0, 9)) return -2;
        if (stories.size() == 8) return -4;
        Story s = new Story();
        s.kind = kind;
        s.worth = worth;
        s.number = number;
        stories.add(s);
        return stories.size() - 1;
    }

    int twin(int one, int other) {
        if (!isStory(one) || !isStory(other) || one == other) return -2;
        Story a = stories.get(one);
        Story b = stories.get(other);
        for (Story s : stories) {
            if (s.twin == a || s.twin == b) s.twin = null;
        }
        a.twin = b;
        b.twin = a;
        return 1;
    }

    int person(int where, int tells) {
        if (!in(where, 0, 399) || !in(tells, 0, 255)) return -2;
        if (people.size() == 8) return -4;
        Person p = new Person();
        p.house = where / 100;
        p.age = where % 100;
        p.tells = tells;
        people.add(p);
        return people.size() - 1;
    }

    int set(int what, int of, int v) {
        if (!in(what, 0, 2) || !isPerson(of)) return -2;
        if (!in(v, 0, what == 0 ? 3 : what == 1 ? 99 : 255)) return -2;
        Person p = people.get(of);
        int was;
        if (what == 0) {
            was = p.house;
            p.house = v;
        } else if (what == 1) {
            was = p.age;
            p.age = v;
        } else {
            was = p.tells;
            p.tells = v;
        }
        return was;
    }

    int hears(int person, int story, int is) {
        if (!isPerson(person) || !isStory(story) || !in(is, 0, 1)) return -2;
        Map<Integer, Integer> heard = people.get(person).heard;
        int had = heard.containsKey(story) ? 1 : 0;
        if (is == 1) heard.put(story, night);
        else heard.remove(story);
        return had;
    }

    int counts(Story s, int kind, int age) {
        return switch (kind) {
            case 0 -> s.worth;
            case 1 -> counts(s, 0, age) + 2;
            case 2 -> age < 14 ? 2 * counts(s, 0, age) : counts(s, 0, age);
            case 3 -> counts(s, 1, age) / 2;
            case 4 -> counts(s, 2, age) + s.number;
            default -> counts(s, 1, age) + (age >= 60 ? 5 : 0);
        };
    }

    int stays(Story s, int kind) {
        return Math.max(0, switch (kind) {
            case 0 -> 30;
            case 1 -> stays(s, 0) + s.number;
            case 2 -> stays(s, 0) / 2;
            case 3 -> stays(s, 1) - 20;
            case 4 -> 2 * stays(s, 2);
            default -> stays(s, 1);
        });
    }

    int told(int story, int what, int age) {
        if (!isStory(story) || !in(what, 0, 5) || !in(age, 0, 99)) return -2;
        Story s = stories.get(story);
        return switch (what) {
            case 0 -> s.kind;
            case 1 -> s.worth;
            case 2 -> s.number;
            case 3 -> s.twin == null ? -1 : stories.indexOf(s.twin);
            case 4 -> stays(s, s.kind);
            default -> counts(s, s.kind, age);
        };
    }

    boolean knows(Person p, int story) {
        Story twin = stories.get(story).twin;
        return p.heard.containsKey(story) || (twin != null && p.heard.containsKey(stories.indexOf(twin)));
    }

    int one(int person, int what) {
        if (!isPerson(person) || !in(what, 0, 4)) return -2;
        Person p = people.get(person);
        if (what == 0) return p.house;
        if (what == 1) return p.age;
        if (what == 2) return p.tells;
        int bits = 0;
        for (int s = 0; s < stories.size(); s++) {
            if (what == 3 ? p.heard.containsKey(s) : knows(p, s)) bits += 1 << s;
        }
        return bits;
    }

    // ---- texts

    int feed(int letter) {
        if (!in(letter, 0, 255)) return -2;
        if (tape.length() == 160) return -4;
        tape += (char) letter;
        return tape.length();
    }

    int text() {
        if (texts.size() == 6) return -4;
        String read = tape;
        tape = "";
        try {
            texts.add(new Parser(read).text());
            return texts.size() - 1;
        } catch (Fault f) {
            return -100 - f.place;
        }
    }

    int force(int text) {
        if (!in(text, 0, texts.size() - 1)) return -2;
        int was = rule;
        rule = text;
        return was;
    }

    /** Tokens first, all of them, with their places; then by the grammar. */
    static final class Parser {
        static final List<String> NAMES = List.of("age", "worth", "heard", "many", "night", "own");
        static final List<String> KEYS = List.of("likes", "pays", "tires", "or", "and", "not");
        final List<String> tokens = new ArrayList<>();
        final List<Integer> places = new ArrayList<>();
        int next = 0;

        Parser(String s) {
            java.util.regex.Matcher m =
                    java.util.regex.Pattern.compile("[a-z]+|[0-9]+|[();+\\-*<=]|[ \\n]+|(?s:.)").matcher(s);
            while (m.find()) {
                String t = m.group();
                if (t.charAt(0) == ' ' || t.charAt(0) == '\n') continue;
                tokens.add(t);
                places.add(m.start());
            }
            tokens.add("");
            places.add(s.length());
        }

        boolean see(String t) {
            return tokens.get(next).equals(t);
        }

        void eat(String t) throws Fault {
            if (!see(t)) throw fault();
            next++;
        }

        Fault fault() {
            return new Fault(places.get(next));
        }

        Expr[] text() throws Fault {
            Expr[] parts = new Expr[3];
            for (int i = 0; i < 3; i++) {
                eat(KEYS.get(i));
                parts[i] = e(0);
                eat(";");
            }
            if (!see("")) throw fault();
            return parts;
        }

        Expr e(int open) throws Fault {
            Expr a = and(open);
            while (see("or")) {
                next++;
                Expr l = a;
                Expr r = and(open);
                a = n -> l.at(n) != 0 | r.at(n) != 0 ? 1 : 0;
            }
            return a;
        }

        Expr and(int open) throws Fault {
            Expr a = not(open);
            while (see("and")) {
                next++;
                Expr l = a;
                Expr r = not(open);
                a = n -> l.at(n) != 0 & r.at(n) != 0 ? 1 : 0;
            }
            return a;
        }

        Expr not(int open) throws Fault {
            if (see("not")) {
                if (open == 5) throw fault();
                next++;
                Expr a = not(open + 1);
                return n -> a.at(n) == 0 ? 1 : 0;
            }
            Expr l = sum(open);
            if (see("<")) {
                next++;
                Expr r = sum(open);
                return n -> l.at(n) < r.at(n) ? 1 : 0;
            }
            if (see("=")) {
                next++;
                Expr r = sum(open);
                return n -> l.at(n) == r.at(n) ? 1 : 0;
            }
            return l;
        }

        Expr sum(int open) throws Fault {
            Expr a = term(open);
            while (see("+") || see("-")) {
                boolean plus = see("+");
                next++;
                Expr l = a;
                Expr r = term(open);
                a = plus ? n -> l.at(n) + r.at(n) : n -> l.at(n) - r.at(n);
            }
            return a;
        }

        Expr term(int open) throws Fault {
            Expr a = one(open);
            while (see("*")) {
                next++;
                Expr l = a;
                Expr r = one(open);
                a = n -> l.at(n) * r.at(n);
            }
            return a;
        }

        Expr one(int open) throws Fault {
            String t = tokens.get(next);
            if (NAMES.contains(t)) {
                next++;
                int i = NAMES.indexOf(t);
                return n -> n[i];
            }
            if (t.matches("[0-9]{1,4}")) {
                next++;
                int v = Integer.parseInt(t);
                return n -> v;
            }
            if (open < 5 && t.equals("-")) {
                next++;
                Expr a = one(open + 1);
                return n -> -a.at(n);
            }
            if (open < 5 && t.equals("(")) {
                next++;
                Expr a = e(open + 1);
                eat(")");
                return a;
            }
            throw fault();
        }
    }

    // ---- evenings

    List<Integer> in(int house) {
        List<Integer> there = new ArrayList<>();
        for (int p = 0; p < people.size(); p++) {
            if (people.get(p).house == house) there.add(p);
        }
        return there;
    }

    int value(int part, int person, int story) {
        Person p = people.get(person);
        Story s = stories.get(story);
        int[] names = {p.age, counts(s, s.kind, p.age), p.heard.size(), in(p.house).size(), night,
            Integer.bitCount(p.tells)};
        int v = texts.get(rule)[part].at(names);
        if (part == 2) return v == 0 ? 0 : 1;
        return v > 99 ? 99 : part == 0 ? Math.max(0, v) : Math.max(-99, v);
    }

    boolean mayBy(int person, int story) {
        List<Integer> there = in(people.get(person).house);
        if (there.size() < 2) return false;
        for (int q : there) {
            if (q != person && knows(people.get(q), story)) return false;
        }
        return (people.get(person).tells >> story & 1) == 1 && value(2, person, story) == 0;
    }

    int byWhom(int house, int story) {
        for (int p : in(house)) {
            if (mayBy(p, story)) return p;
        }
        return -1;
    }

    int may(int house) {
        if (!isHouse(house)) return -2;
        int bits = 0;
        for (int s = 0; s < stories.size(); s++) {
            if (byWhom(house, s) != -1) bits += 1 << s;
        }
        return bits;
    }

    int by(int house, int story) {
        return isHouse(house) && isStory(story) ? byWhom(house, story) : -2;
    }

    long worth(int house, int story) {
        if (!isHouse(house) || !isStory(story)) return NO;
        int teller = byWhom(house, story);
        if (teller == -1) return NO;
        long sum = 0;
        for (int p : in(house)) sum += value(p == teller ? 1 : 0, p, story);
        return sum;
    }

    long most(int house, int what) {
        if (!isHouse(house) || !in(what, 0, 1)) return NO;
        long best = NO;
        int at = -1;
        for (int s = stories.size() - 1; s >= 0; s--) {
            long w = worth(house, s);
            if (w != NO && w >= best) {
                best = w;
                at = s;
            }
        }
        return at == -1 ? NO : what == 0 ? at : best;
    }

    int tell(int house, int story) {
        if (!isHouse(house) || !isStory(story)) return -2;
        int teller = byWhom(house, story);
        if (teller == -1) return -3;
        int heard = 0;
        for (int p : in(house)) {
            if (p == teller) continue;
            people.get(p).heard.put(story, night);
            heard++;
        }
        return heard;
    }

    int pass() {
        if (night < 999) night++;
        for (Person p : people) {
            p.heard.entrySet().removeIf(e -> {
                Story s = stories.get(e.getKey());
                return e.getValue() <= night - stays(s, s.kind);
            });
        }
        return night;
    }

    /** What is thought of is undone by laying these back. */
    List<Person> kept() {
        List<Person> copy = new ArrayList<>();
        for (Person p : people) copy.add(p.copy());
        return copy;
    }

    int goesOn(int house, int what) {
        if (!isHouse(house) || !in(what, 0, 1)) return -2;
        int best = 0;
        for (int set = 0; set < 1 << stories.size(); set++) {
            List<Person> before = kept();
            boolean all = true;
            for (int s = 0; s < stories.size() && all; s++) {
                if ((set >> s & 1) == 1) all = tell(house, s) >= 0;
            }
            people = before;
            if (all && Integer.bitCount(set) > Integer.bitCount(best)) best = set;
        }
        return what == 0 ? Integer.bitCount(best) : best;
    }

    // ---- who should sit where

    int spread(int h, int person) {
        if (!in(h, 1, 4) || (person != -1 && !isPerson(person))) return -2;
        int ways = (int) Math.round(Math.pow(h, people.size()));
        if (ways > 4096) return -2;
        List<Person> before = kept();
        int best = -1;
        int answer = -1;
        for (int way = 0; way < ways; way++) {
            int rest = way;
            for (Person p : people) {
                p.house = rest % h;
                rest /= h;
            }
            int houses = 0;
            for (int k = 0; k < h; k++) {
                if (may(k) != 0) houses++;
            }
            if (houses > best) {
                best = houses;
                answer = person == -1 ? houses : people.get(person).house;
            }
        }
        people = before;
        return answer;
    }

    int keepAway(int house) {
        if (!isHouse(house)) return -2;
        int best = -1;
        int away = -1;
        for (int p : in(house)) {
            people.get(p).house = 77;
            int n = Integer.bitCount(may(house));
            people.get(p).house = house;
            if (n > best) {
                best = n;
                away = p;
            }
        }
        return away;
    }

    int send(int person, int what) {
        if (!isPerson(person) || !in(what, 0, 1)) return -2;
        int was = people.get(person).house;
        int best = -1;
        int where = -1;
        for (int house = 0; house < 4; house++) {
            people.get(person).house = house;
            int n = 0;
            for (int s = 0; s < stories.size(); s++) {
                if (mayBy(person, s)) n++;
            }
            if (n > best) {
                best = n;
                where = house;
            }
        }
        people.get(person).house = was;
        return what == 0 ? where : best;
    }

    int stranger(int house, int age, int tells) {
        if (!isHouse(house) || !in(age, 0, 99) || !in(tells, 0, 255)) return -2;
        int without = Integer.bitCount(may(house));
        Person p = new Person();
        p.house = house;
        p.age = age;
        p.tells = tells;
        people.add(p);
        int with = Integer.bitCount(may(house));
        people.remove(people.size() - 1);
        return with - without;
    }

    int left() {
        int bits = 0;
        for (int s = 0; s < stories.size(); s++) {
            boolean known = false;
            for (Person p : people) known |= knows(p, s);
            if (!known) bits += 1 << s;
        }
        return bits;
    }

    int judge(int sheet) {
        if (!in(sheet, 0, 3)) return -2;
        if (sheets[sheet] == null) return -11;
        int size = java.lang.reflect.Array.getLength(sheets[sheet]);
        if (size % 2 == 1) return -2;
        List<Person> before = kept();
        int answer = -1;
        for (int row = 0; row < size / 2 && answer == -1; row++) {
            if (tell(item(sheet, 2 * row), item(sheet, 2 * row + 1)) < 0) answer = row;
        }
        people = before;
        return answer;
    }

    int item(int sheet, int i) {
        return java.lang.reflect.Array.getInt(sheets[sheet], i);
    }

    int drawn(int seed, int n) {
        if (!in(n, 0, 40)) return -2;
        List<Person> before = kept();
        int nightBefore = night;
        int z = seed;
        int told = 0;
        for (int i = 0; i < n; i++) {
            for (Person p : people) {
                z = z * 1103515245 + 12345;
                p.house = (z >>> 8) % 4;
            }
            for (int house = 0; house < 4; house++) {
                long s = most(house, 0);
                if (s != NO) {
                    tell(house, (int) s);
                    told++;
                }
            }
            pass();
        }
        people = before;
        night = nightBefore;
        return told;
    }

    int image() {
        imagePeople = kept();
        imageNight = night;
        imageRule = rule;
        return night;
    }

    int back() {
        if (imagePeople == null) return -3;
        for (int p = 0; p < imagePeople.size(); p++) {
            people.get(p).house = imagePeople.get(p).house;
            people.get(p).heard = new TreeMap<>(imagePeople.get(p).heard);
        }
        night = imageNight;
        rule = imageRule;
        return night;
    }

    int count(int what) {
        return switch (what) {
            case 0 -> stories.size();
            case 1 -> people.size();
            case 2 -> night;
            case 3 -> texts.size();
            case 4 -> tape.length();
            case 5 -> rule;
            default -> -2;
        };
    }

    // ---- the host

    int sheet(int sheet, int sort, int n) {
        if (!in(sheet, 0, 3) || !in(sort, -1, 2)) return -2;
        if (sort == -1) {
            sheets[sheet] = null;
            return 1;
        }
        if (n > 40) return -2;
        if (n < 0) return -14;
        sheets[sheet] = sort == 0 ? new byte[n] : sort == 1 ? new short[n] : new int[n];
        return 1;
    }

    int cell(int sheet, int i, int v) {
        if (!in(sheet, 0, 3)) return -2;
        if (sheets[sheet] == null) return -11;
        if (!in(i, 0, java.lang.reflect.Array.getLength(sheets[sheet]) - 1)) return -12;
        if (sheets[sheet] instanceof byte[] b) b[i] = (byte) v;
        if (sheets[sheet] instanceof short[] s) s[i] = (short) v;
        if (sheets[sheet] instanceof int[] k) k[i] = v;
        return 1;
    }

    int copy(int sheet, int i, int other, int j, int n) {
        if (!in(sheet, 0, 3) || !in(other, 0, 3)) return -2;
        try {
            System.arraycopy(sheets[sheet], i, sheets[other], j, n);
            return n;
        } catch (NullPointerException e) {
            return -11;
        } catch (ArrayStoreException e) {
            return -13;
        } catch (IndexOutOfBoundsException e) {
            return -12;
        }
    }

    int people(int sheet, int sort, int from, int n) {
        if (!in(sheet, 0, 3) || !in(sort, 0, 2) || !in(n, 0, 8)) return -2;
        Object row = sheets[sheet];
        if (row == null) return -11;
        if (sort == 0 ? !(row instanceof byte[]) : sort == 1 ? !(row instanceof short[]) : !(row instanceof int[])) {
            return -13;
        }
        int came = 0;
        long size = java.lang.reflect.Array.getLength(row);
        for (long i = from; i < from + 2L * n; i += 2) {
            if (i < 0 || i + 1 >= size) return -12;
            if (person(item(sheet, (int) i), item(sheet, (int) i + 1)) >= 0) came++;
        }
        return came;
    }

    int taken(int story, int k) {
        if (!in(k, 0, 5)) return -2;
        if (!isStory(story)) return -11;
        TreeSet<Integer> kinds = new TreeSet<>();
        switch (stories.get(story).kind) {
            case 0 -> kinds.addAll(List.of(0));
            case 1 -> kinds.addAll(List.of(0, 1));
            case 2 -> kinds.addAll(List.of(0, 2));
            case 3 -> kinds.addAll(List.of(0, 1, 3));
            case 4 -> kinds.addAll(List.of(0, 2, 4));
            default -> kinds.addAll(List.of(0, 1, 5));
        }
        return kinds.contains(k) ? stories.get(story).number : -13;
    }
}
