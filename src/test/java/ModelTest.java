import java.util.ArrayList;
import java.util.List;
import java.util.TreeMap;

/**
 * Runs of 512 calls with drawn arguments, each answer beside that of a second program, which keeps the
 * history of all holds and offers and finds everything from it.
 */
public final class ModelTest {
    private static final int RUNS = 600;
    private static final int CALLS = 512;
    // The runs have to come to every answer of each call often; these counts tell it.
    private static final TreeMap<String, Integer> SEEN = new TreeMap<>();

    private static int wrong = 0;

    public static void main(String[] args) {
        for (int run = 0; run < RUNS && wrong == 0; run++) {
            compare(run);
        }
        needSeen();
        System.out.println(wrong == 0 ? "both programs answer alike" : wrong + " answers are not as due");
        if (wrong != 0) {
            System.exit(1);
        }
    }

    private static void compare(int run) {
        Draw draw = new Draw(run);
        AuditoriumKeys real = new AuditoriumKeys();
        Model model = new Model();
        List<String> calls = new ArrayList<>();
        for (int number = 0; number < CALLS && wrong == 0; number++) {
            // Some runs begin near the last minute.
            int[] call = run % 8 == 7 && number < 19 ? new int[] {0, 500} : draw.call(model);
            String due = model.answer(call);
            String got = answer(real, call);
            String text = NAMES[call[0]] + arguments(call);
            calls.add(text + " -> " + got);
            SEEN.merge(NAMES[call[0]] + (due.startsWith("throws") ? " " + due : " answers"), 1, Integer::sum);
            if (!due.equals(got)) {
                wrong++;
                for (String line : calls) {
                    System.out.println("  " + line);
                }
                System.out.println("run " + run + ": " + text + " answered " + got + ", due is " + due);
            }
        }
    }

    private static String arguments(int[] call) {
        StringBuilder all = new StringBuilder("(");
        for (int i = 0; i < COUNTS[call[0]]; i++) {
            all.append(i == 0 ? "" : ", ").append(call[i + 1]);
        }
        return all.append(')').toString();
    }

    private static void needSeen() {
        String index = " throws IndexOutOfBoundsException";
        String argument = " throws IllegalArgumentException";
        String state = " throws IllegalStateException";
        for (String name : NAMES) {
            need(name + " answers");
        }
        for (String name : new String[] {"used", "join", "quit", "queueAt", "hold", "pay", "letGo", "lapses", "state",
            "owner", "ownerBySales", "isSingle", "firstOpen", "offer", "retract", "spent"}) {
            need(name + index);
        }
        for (String name : new String[] {"pass", "setOpening", "code", "hold", "pay", "firstOpen", "offer"}) {
            need(name + argument);
        }
        for (String name : new String[] {"pass", "code", "join", "quit", "hold", "pay", "letGo", "offer", "retract"}) {
            need(name + state);
        }
        for (String why : new String[] {"not served", "not open", "own seat", "would be single", "code needed",
            "person's limit", "household's limit", "was single, stays", "lapse", "resale", "latest minute"}) {
            need(why);
        }
    }

    private static void need(String what) {
        if (wrong == 0 && SEEN.getOrDefault(what, 0) < 20) {
            wrong++;
            System.out.println("the runs came to '" + what + "' only " + SEEN.getOrDefault(what, 0) + " times");
        }
    }

    private static void saw(String what) {
        SEEN.merge(what, 1, Integer::sum);
    }

    private static final String[] NAMES = {"pass", "time", "setOpening", "code", "used", "join", "quit", "queueAt",
        "served", "hold", "pay", "letGo", "lapses", "state", "owner", "ownerBySales", "isSingle", "firstOpen",
        "offer", "retract", "spent", "takings"};
    private static final int[] COUNTS = {1, 0, 1, 2, 2, 1, 1, 1, 0, 5, 2, 1, 1, 1, 1, 1, 1, 2, 3, 1, 1, 0};

    private static String answer(AuditoriumKeys x, int[] c) {
        try {
            return "" + switch (NAMES[c[0]]) {
                case "pass" -> x.pass(c[1]);
                case "time" -> x.time();
                case "setOpening" -> x.setOpening(c[1]);
                case "code" -> x.code(c[1], c[2]);
                case "used" -> x.used(c[1], c[2]);
                case "join" -> x.join(c[1]);
                case "quit" -> x.quit(c[1]);
                case "queueAt" -> x.queueAt(c[1]);
                case "served" -> x.served();
                case "hold" -> x.hold(c[1], c[2], c[3], c[4], c[5]);
                case "pay" -> x.pay(c[1], c[2]);
                case "letGo" -> x.letGo(c[1]);
                case "lapses" -> x.lapses(c[1]);
                case "state" -> x.state(c[1]);
                case "owner" -> x.owner(c[1]);
                case "ownerBySales" -> x.ownerBySales(c[1]);
                case "isSingle" -> x.isSingle(c[1]) ? 1 : 0;
                case "firstOpen" -> x.firstOpen(c[1], c[2]);
                case "offer" -> x.offer(c[1], c[2], c[3]);
                case "retract" -> x.retract(c[1]);
                case "spent" -> x.spent(c[1]);
                default -> x.takings();
            };
        } catch (RuntimeException e) {
            return "throws " + e.getClass().getSimpleName();
        }
    }

    /** Numbers drawn by a fixed rule, so that each run is the same every time. */
    private static final class Draw {
        private long seed;
        private final int kind;

        private Draw(int run) {
            seed = run * 7919L + 17;
            kind = run % 4;
        }

        private int below(int bound) {
            seed = seed * 6364136223846793005L + 1442695040888963407L;
            return (int) ((seed >>> 33) % bound);
        }

        private int from(int low, int high) {
            int dice = below(60);
            if (dice == 0) {
                return low - 1;
            }
            if (dice == 1) {
                return high + 1;
            }
            if (dice == 2) {
                return below(2) == 0 ? Integer.MIN_VALUE : Integer.MAX_VALUE;
            }
            return low + below(high - low + 1);
        }

        private int[] call(Model m) {
            int dice = below(100);
            if (dice < 12) {
                return new int[] {0, kind == 3 ? from(1, below(3) == 0 ? 500 : 60) : from(1, below(8) == 0 ? 12 : 2)};
            }
            if (dice < 30) {
                return new int[] {5, from(0, 7)};
            }
            if (dice < 50) {
                return hold(m);
            }
            if (dice < 66) {
                return pay(m);
            }
            if (dice < 76) {
                return offer(m);
            }
            return rare(m);
        }

        private int[] hold(Model m) {
            int person = m.served() != -1 && below(10) > 0 ? m.served() : from(0, 7);
            int row = from(0, kind == 2 ? 1 : 5);
            int many = from(1, 4);
            int place = below(3) == 0 || many < 1 || many > 4 ? from(0, 9) : from(0, 10 - many);
            int code = m.codes.isEmpty() || below(3) == 0 ? -1 : from(0, m.codes.size() - 1);
            return new int[] {9, person, row, place, many, code};
        }

        private int holder(Model m) {
            int person = from(0, 7);
            for (int tries = 0; tries < 8 && m.holdOf(person) == null; tries++) {
                person = from(0, 7);
            }
            return person;
        }

        private int[] pay(Model m) {
            int person = holder(m);
            Hold hold = m.holdOf(person);
            if (hold == null || below(6) == 0) {
                return new int[] {10, person, from(1, 1000)};
            }
            int left = hold.cost - hold.paid;
            int dice = below(8);
            int coins = dice < 4 ? left : dice == 4 ? left + 1 : 1 + below(left);
            return new int[] {10, person, Math.min(coins, 1000)};
        }

        private int[] offer(Model m) {
            int seat = from(0, kind == 2 ? 19 : 59);
            for (int tries = 0; tries < 20 && (seat < 0 || seat > 59 || m.state(seat) != 2); tries++) {
                seat = from(0, kind == 2 ? 19 : 59);
            }
            int owner = seat < 0 || seat > 59 ? -1 : m.owner(seat);
            int person = owner == -1 || below(12) == 0 ? from(0, 7) : owner;
            int price = owner == -1 || below(12) == 0 ? from(1, 10000) : m.ceiling(seat) + 1 - below(3);
            return new int[] {18, person, seat, price};
        }

        private int[] rare(Model m) {
            int seat = from(0, kind == 2 ? 19 : 59);
            switch (below(22)) {
                case 0: return new int[] {1};
                case 1: return new int[] {2, kind == 1 ? from(0, 10000) : from(0, below(4) == 0 ? 300 : 0)};
                case 2: return new int[] {3, from(1, 10), from(1, 20)};
                case 3: return new int[] {3, from(1, 5), from(1, 8)};
                case 4: return new int[] {4, from(0, Math.max(0, m.codes.size() - 1)), from(0, 7)};
                case 5: return new int[] {6, from(0, 7)};
                case 6: return new int[] {7, from(0, 7)};
                case 7: return new int[] {8};
                case 8: return new int[] {11, holder(m)};
                case 9: return new int[] {12, holder(m)};
                case 10: return new int[] {13, seat};
                case 11: return new int[] {14, seat};
                case 12: return new int[] {15, seat};
                case 13: return new int[] {16, seat};
                case 14: return new int[] {16, singleOr(m, seat)};
                case 15: return new int[] {17, from(0, 5), from(1, 10)};
                case 16: return new int[] {17, from(0, 5), from(1, 4)};
                case 17: return new int[] {19, seat};
                case 18: return new int[] {19, offeredOr(m, seat)};
                case 19: return new int[] {20, from(0, 7)};
                case 20: return new int[] {21};
                default: return new int[] {4, from(0, Math.max(0, m.codes.size() - 1)), from(0, 7)};
            }
        }

        private int singleOr(Model m, int seat) {
            int start = below(60);
            for (int i = 0; i < 60; i++) {
                if (m.single((start + i) % 60)) {
                    return (start + i) % 60;
                }
            }
            return seat;
        }

        private int offeredOr(Model m, int seat) {
            int start = below(60);
            for (int i = 0; i < 60; i++) {
                if (m.state((start + i) % 60) == 3) {
                    return (start + i) % 60;
                }
            }
            return seat;
        }
    }

    private static final class Hold {
        private final int person;
        private final int code;
        private final List<Integer> seats = new ArrayList<>();
        private final List<Integer> prices = new ArrayList<>();
        private final List<Integer> sellers = new ArrayList<>();
        private final int made;
        private int payments = 0;
        private int cost = 0;
        private int paid = 0;
        private boolean sold = false;

        private Hold(int person, int code, int made) {
            this.person = person;
            this.code = code;
            this.made = made;
        }

        private int lapse() {
            return made + Math.min(30, 10 + 5 * payments);
        }
    }

    private static final class Refused extends RuntimeException {
        private static final long serialVersionUID = 1L;
        private final String kind;

        private Refused(String kind) {
            super(kind);
            this.kind = kind;
        }
    }

    /** The second program: holds that are there or were paid for, offers, and those who came. */
    private static final class Model {
        private final List<Hold> holds = new ArrayList<>();
        private final List<int[]> codes = new ArrayList<>();
        private final List<int[]> waiting = new ArrayList<>();
        private final TreeMap<Integer, Integer> offers = new TreeMap<>();
        private int minute = 0;
        private int opening = 100;

        private String answer(int[] c) {
            try {
                return "" + does(c);
            } catch (Refused e) {
                return "throws " + e.kind;
            }
        }

        private static void index(boolean right) {
            if (!right) {
                throw new Refused("IndexOutOfBoundsException");
            }
        }

        private static void argument(int value, int low, int high) {
            if (value < low || value > high) {
                throw new Refused("IllegalArgumentException");
            }
        }

        private static void state(boolean right) {
            if (!right) {
                throw new Refused("IllegalStateException");
            }
        }

        private static void person(int number) {
            index(number >= 0 && number <= 7);
        }

        private static void seat(int number) {
            index(number >= 0 && number <= 59);
        }

        private int does(int[] c) {
            switch (NAMES[c[0]]) {
                case "pass": return pass(c[1]);
                case "time": return minute;
                case "setOpening": return setOpening(c[1]);
                case "code": return code(c[1], c[2]);
                case "used": index(c[1] >= 0 && c[1] < codes.size()); person(c[2]); return used(c[1], c[2], c[2]);
                case "join": return join(c[1]);
                case "quit": return quit(c[1]);
                case "queueAt": index(c[1] >= 0 && c[1] < waiting.size()); return waiting.get(c[1])[2];
                case "served": return served();
                case "hold": return hold(c[1], c[2], c[3], c[4], c[5]);
                case "pay": return pay(c[1], c[2]);
                case "letGo": return letGo(c[1]);
                case "lapses": person(c[1]); return holdOf(c[1]) == null ? -1 : holdOf(c[1]).lapse();
                case "state": seat(c[1]); return state(c[1]);
                case "owner":
                case "ownerBySales": seat(c[1]); return owner(c[1]);
                case "isSingle": seat(c[1]); return single(c[1]) ? 1 : 0;
                case "firstOpen": return firstOpen(c[1], c[2]);
                case "offer": return offer(c[1], c[2], c[3]);
                case "retract": seat(c[1]); state(state(c[1]) == 3); return offers.remove(c[1]);
                case "spent": person(c[1]); return spent(c[1]);
                default: return takings();
            }
        }

        private int pass(int minutes) {
            argument(minutes, 1, 500);
            state(minute <= 10000 - minutes);
            minute += minutes;
            int before = holds.size();
            holds.removeIf(hold -> !hold.sold && hold.lapse() <= minute);
            if (before > holds.size()) {
                saw("lapse");
            }
            return before - holds.size();
        }

        private int setOpening(int to) {
            argument(to, 0, 10000);
            int before = opening;
            opening = to;
            return before;
        }

        private int code(int ofPerson, int ofHousehold) {
            argument(ofPerson, 1, 10);
            argument(ofHousehold, 1, 20);
            state(codes.size() < 10);
            codes.add(new int[] {ofPerson, ofHousehold});
            return codes.size() - 1;
        }

        /** How many seats count for a code, for the persons from one to another. */
        private int used(int code, int one, int other) {
            int seats = 0;
            for (Hold hold : holds) {
                if (hold.code == code && hold.person >= one && hold.person <= other) {
                    seats += hold.seats.size();
                }
            }
            return seats;
        }

        private int[] waits(int person) {
            for (int[] one : waiting) {
                if (one[2] == person) {
                    return one;
                }
            }
            return null;
        }

        private int join(int person) {
            person(person);
            state(waits(person) == null && holdOf(person) == null);
            waiting.add(new int[] {minute, (5 * person + 3 * minute) % 8, person});
            waiting.sort((a, b) -> a[0] != b[0] ? a[0] - b[0] : a[1] - b[1]);
            return waiting.size();
        }

        private int quit(int person) {
            person(person);
            state(waits(person) != null);
            waiting.remove(waits(person));
            return waiting.size();
        }

        private int served() {
            return waiting.isEmpty() || waiting.get(0)[0] == minute ? -1 : waiting.get(0)[2];
        }

        private Hold holdOf(int person) {
            for (Hold hold : holds) {
                if (hold.person == person && !hold.sold) {
                    return hold;
                }
            }
            return null;
        }

        private int hold(int person, int row, int place, int many, int code) {
            person(person);
            index(row >= 0 && row <= 5);
            index(place >= 0 && place <= 9);
            index(code >= -1 && code < codes.size());
            argument(many, 1, Math.min(4, 10 - place));
            Hold hold = new Hold(person, code, minute);
            for (int i = 0; i < many; i++) {
                int seat = 10 * row + place + i;
                hold.seats.add(seat);
                hold.prices.add(state(seat) == 3 ? offers.get(seat) : 100 - 10 * row);
                hold.sellers.add(owner(seat));
                hold.cost += hold.prices.get(i);
            }
            String why = against(hold);
            if (why != null) {
                saw(why);
            }
            state(why == null);
            holds.add(hold);
            waiting.remove(waits(person));
            return hold.cost;
        }

        private String against(Hold hold) {
            if (served() != hold.person) {
                return "not served";
            }
            for (int seat : hold.seats) {
                if (state(seat) == 1 || state(seat) == 2) {
                    return "not open";
                }
                if (owner(seat) == hold.person) {
                    return "own seat";
                }
            }
            boolean[] before = new boolean[60];
            for (int seat = 0; seat < 60; seat++) {
                before[seat] = single(seat);
            }
            String why = limits(hold);
            holds.add(hold);
            for (int seat = 0; seat < 60; seat++) {
                if (single(seat) && before[seat] && (hold.seats.contains(seat - 2) || hold.seats.contains(seat + 2))) {
                    saw("was single, stays");
                }
                if (single(seat) && !before[seat]) {
                    why = "would be single";
                }
            }
            holds.remove(hold);
            return why;
        }

        private String limits(Hold hold) {
            if (hold.code == -1) {
                return minute < opening ? "code needed" : null;
            }
            int first = hold.person / 2 * 2;
            int many = hold.seats.size();
            if (used(hold.code, hold.person, hold.person) + many > codes.get(hold.code)[0]) {
                return "person's limit";
            }
            return used(hold.code, first, first + 1) + many > codes.get(hold.code)[1] ? "household's limit" : null;
        }

        private int pay(int person, int coins) {
            person(person);
            argument(coins, 1, 1000);
            Hold hold = holdOf(person);
            state(hold != null && coins <= hold.cost - hold.paid);
            hold.paid += coins;
            if (hold.paid < hold.cost) {
                hold.payments++;
                if (hold.payments > 4) {
                    saw("latest minute");
                }
                return hold.cost - hold.paid;
            }
            holds.remove(hold);
            holds.add(hold);
            hold.sold = true;
            for (int seat : hold.seats) {
                if (offers.remove(seat) != null) {
                    saw("resale");
                }
            }
            return 0;
        }

        private int letGo(int person) {
            person(person);
            Hold hold = holdOf(person);
            state(hold != null);
            holds.remove(hold);
            return hold.paid;
        }

        private int state(int seat) {
            for (Hold hold : holds) {
                if (!hold.sold && hold.seats.contains(seat)) {
                    return 1;
                }
            }
            return offers.containsKey(seat) ? 3 : owner(seat) == -1 ? 0 : 2;
        }

        /** The last sale of a seat: those that were paid for stand in the order of their last payments. */
        private Hold sale(int seat) {
            Hold last = null;
            for (Hold hold : holds) {
                if (hold.sold && hold.seats.contains(seat)) {
                    last = hold;
                }
            }
            return last;
        }

        private int owner(int seat) {
            return sale(seat) == null ? -1 : sale(seat).person;
        }

        private int ceiling(int seat) {
            Hold last = sale(seat);
            return last.prices.get(last.seats.indexOf(seat)) * 11 / 10;
        }

        private boolean open(int seat) {
            return state(seat) == 0 || state(seat) == 3;
        }

        private boolean single(int seat) {
            boolean ahead = seat % 10 != 0 && open(seat - 1);
            boolean behind = seat % 10 != 9 && open(seat + 1);
            return open(seat) && !ahead && !behind;
        }

        private int firstOpen(int row, int many) {
            index(row >= 0 && row <= 5);
            argument(many, 1, 10);
            for (int place = 0; place + many <= 10; place++) {
                int open = 0;
                while (open < many && open(10 * row + place + open)) {
                    open++;
                }
                if (open == many) {
                    return place;
                }
            }
            return -1;
        }

        private int offer(int person, int seat, int price) {
            person(person);
            seat(seat);
            argument(price, 1, 10000);
            state(state(seat) == 2 && owner(seat) == person && price <= ceiling(seat));
            offers.put(seat, price);
            return ceiling(seat);
        }

        private int spent(int person) {
            int coins = 0;
            for (Hold hold : holds) {
                coins += hold.person == person ? hold.paid : 0;
                for (int i = 0; hold.sold && i < hold.seats.size(); i++) {
                    coins -= hold.sellers.get(i) == person ? hold.prices.get(i) : 0;
                }
            }
            return coins;
        }

        private int takings() {
            int coins = 0;
            for (Hold hold : holds) {
                for (int i = 0; hold.sold && i < hold.seats.size(); i++) {
                    coins += hold.sellers.get(i) == -1 ? hold.prices.get(i) : 0;
                }
            }
            return coins;
        }
    }
}
