import java.util.ArrayList;
import java.util.List;

/**
 * Runs of calls on new objects, told as rows: "call(1, 2) -> answer", more of them on a line with "; " between, and
 * "3 x call(1)" for the same call three times. A row without an answer may answer anything, but must not throw.
 * The name of an exception, without its end "Exception", is the answer of a call that has to throw it.
 * Behind each row that throws, the object is compared with one on which that call was never made.
 */
public final class Runs {
    private static final int MOST_CALLS = 512;

    private static int runs = 0;
    private static int refusals = 0;
    private static int wrong = 0;

    private record Call(String name, int[] with, String due, String told) {
        private boolean isRefused() {
            return due != null && Character.isUpperCase(due.charAt(0));
        }
    }

    /** An object with the calls that were made of it. */
    private static final class Subject {
        private final AuditoriumKeys x = new AuditoriumKeys();
        private int calls = 0;

        /** The answer as a text, or the name of what was thrown. */
        private String ask(String name, int... with) {
            try {
                return switch (name) {
                    case "serve" -> serve(with[0]);
                    case "take" -> take(with[0], with[1], with[2], with[3], with[4]);
                    case "buy" -> buy(with[0], with[1], with[2], with[3]);
                    default -> call(name, with);
                };
            } catch (RuntimeException e) {
                String kind = e.getClass().getSimpleName();
                return kind.substring(0, kind.length() - "Exception".length());
            }
        }

        private String serve(int person) {
            call("join", person);
            return call("pass", 1);
        }

        private String take(int person, int row, int place, int many, int code) {
            serve(person);
            return call("hold", person, row, place, many, code);
        }

        private String buy(int person, int row, int place, int many) {
            String left = take(person, row, place, many, AuditoriumKeys.NONE);
            while (!left.equals("0")) {
                left = call("pay", person, Math.min(Integer.parseInt(left), 1000));
            }
            return left;
        }

        private String call(String name, int... with) {
            calls++;
            if (name.equals("isSingle")) {
                return String.valueOf(x.isSingle(with[0]));
            }
            return String.valueOf(switch (name) {
                case "pass" -> x.pass(with[0]);
                case "time" -> x.time();
                case "setOpening" -> x.setOpening(with[0]);
                case "code" -> x.code(with[0], with[1]);
                case "used" -> x.used(with[0], with[1]);
                case "join" -> x.join(with[0]);
                case "quit" -> x.quit(with[0]);
                case "queueAt" -> x.queueAt(with[0]);
                case "served" -> x.served();
                case "hold" -> x.hold(with[0], with[1], with[2], with[3], with[4]);
                case "pay" -> x.pay(with[0], with[1]);
                case "letGo" -> x.letGo(with[0]);
                case "lapses" -> x.lapses(with[0]);
                case "state" -> x.state(with[0]);
                case "owner" -> x.owner(with[0]);
                case "ownerBySales" -> x.ownerBySales(with[0]);
                case "firstOpen" -> x.firstOpen(with[0], with[1]);
                case "offer" -> x.offer(with[0], with[1], with[2]);
                case "retract" -> x.retract(with[0]);
                case "spent" -> x.spent(with[0]);
                case "takings" -> x.takings();
                default -> throw new AssertionError("no such call: " + name);
            });
        }
    }

    private Runs() {
    }

    /** A run on a new object. */
    static void of(String promise, String sentence, String rows) {
        runs++;
        String run = promise + " | " + sentence;
        List<Call> calls = parsed(rows);
        Subject subject = new Subject();
        boolean asked = false;
        for (int i = 0; i < calls.size(); i++) {
            Call call = calls.get(i);
            asked |= call.due != null;
            String got = subject.ask(call.name, call.with);
            if (call.due == null ? Character.isUpperCase(got.charAt(0)) : !got.equals(call.due)) {
                String due = call.due == null ? "an answer" : call.due;
                fault(run + " | row " + (i + 1) + ": " + call.told + " answered " + got + ", due is " + due);
            }
            if (call.isRefused()) {
                needPlain(call);
                refusals++;
                compareWithTwin(run, calls.subList(0, i + 1));
            }
        }
        if (!asked) {
            fault(run + " | no row has an answer that is due");
        }
        needFew(run, subject);
    }

    /** A run on an object that is open from the minute 0 on. */
    static void opened(String promise, String sentence, String rows) {
        of(promise, sentence, "setOpening(0) -> 100\n" + rows);
    }

    static void due(String promise, String sentence, long got, long want) {
        runs++;
        if (got != want) {
            fault(promise + " | " + sentence + ": " + got + ", due is " + want);
        }
    }

    static void end() {
        System.out.println(runs + " runs, " + refusals + " refused calls: "
            + (wrong == 0 ? "all are as due" : wrong + " faults"));
        if (wrong != 0) {
            System.exit(1);
        }
    }

    private static void fault(String what) {
        wrong++;
        System.out.println(what);
    }

    /** A row of several calls cannot be refused: those ahead of the one that throws change something. */
    private static void needPlain(Call call) {
        switch (call.name) {
            case "serve", "take", "buy" -> throw new AssertionError("several calls: " + call.told);
            default -> { }
        }
    }

    private static void needFew(String run, Subject subject) {
        if (subject.calls > MOST_CALLS) {
            fault(run + " | a run of " + subject.calls + " calls is too long to tell anything");
        }
    }

    // ---- what a call that throws leaves as it was

    private static void compareWithTwin(String run, List<Call> calls) {
        Call last = calls.get(calls.size() - 1);
        for (int view = 0; view < VIEWS; view++) {
            Subject subject = new Subject();
            Subject twin = new Subject();
            for (Call call : calls) {
                subject.ask(call.name, call.with);
                if (!call.isRefused()) {
                    twin.ask(call.name, call.with);
                }
            }
            String told = look(view, subject);
            String due = look(view, twin);
            if (!told.equals(due)) {
                fault(run + " | " + last.told + " changed something, view " + view + ":\n    " + told + "\n    due is\n    "
                    + due);
            }
            needFew(run, subject);
        }
    }

    private static final int VIEWS = 10;

    private static String look(int view, Subject x) {
        StringBuilder told = new StringBuilder();
        switch (view) {
            case 0 -> lookAtPersons(x, told);
            case 1 -> lookAtSeats(x, told);
            case 2 -> lookAtRows(x, told);
            case 3 -> payAndLetGo(x, told);
            case 4 -> retractAndOffer(x, told);
            case 5 -> letTimePass(x, told);
            case 6 -> serveAll(x, told, AuditoriumKeys.NONE);
            case 7 -> serveAll(x, told, 0);
            case 8 -> serveAll(x, told, 1);
            default -> serveAll(x, told, 9);
        }
        return told.toString();
    }

    private static void tell(Subject x, StringBuilder told, String name, int... with) {
        told.append(x.ask(name, with)).append(' ');
    }

    private static void lookAtPersons(Subject x, StringBuilder told) {
        tell(x, told, "time");
        tell(x, told, "takings");
        tell(x, told, "served");
        tell(x, told, "setOpening", 0);
        for (int i = 0; i < 9; i++) {
            tell(x, told, "queueAt", i);
            tell(x, told, "spent", i);
            tell(x, told, "lapses", i);
        }
        for (int code = 0; code < 10; code++) {
            for (int person = 0; person < 8; person++) {
                tell(x, told, "used", code, person);
            }
        }
        // How many codes there are yet.
        for (int code = 0; code < 11; code++) {
            tell(x, told, "code", 1, 1);
        }
    }

    private static void lookAtSeats(Subject x, StringBuilder told) {
        for (int seat = 0; seat < 60; seat++) {
            tell(x, told, "state", seat);
            tell(x, told, "owner", seat);
            tell(x, told, "ownerBySales", seat);
        }
    }

    private static void lookAtRows(Subject x, StringBuilder told) {
        for (int seat = 0; seat < 60; seat++) {
            tell(x, told, "isSingle", seat);
        }
        for (int row = 0; row < 6; row++) {
            for (int many = 1; many <= 10; many++) {
                tell(x, told, "firstOpen", row, many);
            }
        }
    }

    private static void payAndLetGo(Subject x, StringBuilder told) {
        for (int person = 0; person < 8; person++) {
            tell(x, told, "pay", person, 1);
            tell(x, told, "lapses", person);
            tell(x, told, "letGo", person);
            tell(x, told, "spent", person);
            tell(x, told, "quit", person);
        }
    }

    private static void retractAndOffer(Subject x, StringBuilder told) {
        for (int seat = 0; seat < 60; seat++) {
            tell(x, told, "retract", seat);
            String owner = x.ask("owner", seat);
            if (!owner.equals("-1")) {
                tell(x, told, "offer", Integer.parseInt(owner), seat, 1);
            }
        }
    }

    private static void letTimePass(Subject x, StringBuilder told) {
        for (int minute = 0; minute < 32; minute++) {
            tell(x, told, "pass", 1);
            tell(x, told, "served");
        }
        for (int person = 0; person < 8; person++) {
            tell(x, told, "spent", person);
            tell(x, told, "join", person);
        }
    }

    private static void serveAll(Subject x, StringBuilder told, int code) {
        for (int person = 0; person < 8; person++) {
            tell(x, told, "join", person);
        }
        tell(x, told, "pass", 1);
        for (int turn = 0; turn < 8; turn++) {
            String served = x.ask("served");
            told.append(served).append(' ');
            int person = Integer.parseInt(served);
            for (int many = 4; many >= 1; many--) {
                int row = turn % 6;
                int place = Integer.parseInt(x.ask("firstOpen", row, many));
                tell(x, told, "hold", person, row, Math.max(place, 0), many, code);
            }
            tell(x, told, "quit", person);
        }
    }

    // ---- rows

    private static List<Call> parsed(String rows) {
        List<Call> calls = new ArrayList<>();
        for (String row : rows.split("[\n;]")) {
            if (!row.isBlank()) {
                parse(row.trim(), calls);
            }
        }
        return calls;
    }

    private static void parse(String row, List<Call> calls) {
        String told = row;
        int times = 1;
        int sign = row.indexOf(" x ");
        if (sign >= 0) {
            times = Integer.parseInt(row.substring(0, sign).trim());
            told = row.substring(sign + 3).trim();
        }
        int arrow = told.indexOf("->");
        String call = arrow < 0 ? told : told.substring(0, arrow).trim();
        String due = arrow < 0 ? null : answer(told.substring(arrow + 2).trim());
        int open = call.indexOf('(');
        if (open < 0 || !call.endsWith(")")) {
            throw new AssertionError("no call: " + row);
        }
        String inside = call.substring(open + 1, call.length() - 1).trim();
        String[] texts = inside.isEmpty() ? new String[0] : inside.split(",");
        int[] with = new int[texts.length];
        for (int i = 0; i < with.length; i++) {
            with[i] = number(texts[i].trim());
        }
        for (int i = 0; i < times; i++) {
            calls.add(new Call(call.substring(0, open), with, due, call));
        }
    }

    private static String answer(String text) {
        return switch (text) {
            case "true", "false", "IndexOutOfBounds", "IllegalArgument", "IllegalState" -> text;
            default -> String.valueOf(number(text));
        };
    }

    private static int number(String text) {
        return switch (text) {
            case "NONE" -> AuditoriumKeys.NONE;
            case "FREE" -> AuditoriumKeys.FREE;
            case "HELD" -> AuditoriumKeys.HELD;
            case "SOLD" -> AuditoriumKeys.SOLD;
            case "OFFERED" -> AuditoriumKeys.OFFERED;
            case "MIN" -> Integer.MIN_VALUE;
            case "MAX" -> Integer.MAX_VALUE;
            default -> Integer.parseInt(text);
        };
    }
}
