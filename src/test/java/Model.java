import java.util.ArrayList;
import java.util.HashMap;
import java.util.List;
import java.util.Map;

/** The document told once more, by trees and recursion, to hold the class against. */
final class Model {
    static final class Fault extends RuntimeException {
        private static final long serialVersionUID = 1L;
        final int number;
        final int place;

        Fault(int number, int place) {
            this.number = number;
            this.place = place;
        }
    }

    static final class Node {
        final int kind;
        int value;
        final List<Node> kids = new ArrayList<>();
        String called;
        int place;

        Node(int kind, int value, Node... kids) {
            this.kind = kind;
            this.value = value;
            this.kids.addAll(List.of(kids));
        }

        int size() {
            int sum = 1;
            for (Node k : kids) {
                sum += k.size();
            }
            return sum;
        }

        boolean calm() {
            if (kind == 15 || kind == 11 || kind == 6 || kind == 7) {
                return false;
            }
            return kids.stream().allMatch(Node::calm);
        }

        boolean has(int variable) {
            return kind == 2 && value == variable || kids.stream().anyMatch(k -> k.has(variable));
        }

        void calls(List<Node> found) {
            for (Node k : kids) {
                k.calls(found);
            }
            if (kind == 15) {
                found.add(this);
            }
        }
    }

    static final class Function {
        String name;
        int parameters;
        int variables;
        int replaced;
        Node body;
        List<int[]> code = new ArrayList<>();
        int slots;
        int temps;
        int bound;

        int frame() {
            return 2 + slots + temps;
        }
    }

    List<Function> source = new ArrayList<>();
    List<Function> output = new ArrayList<>();
    List<Integer> order = new ArrayList<>();
    boolean[][] direct;
    boolean[][] comes;
    int budget = 20;
    int replacedInAll;

    /** How many functions; throws a Fault. */
    int read(String text) {
        source = new Parser(text).text();
        int n = source.size();
        direct = new boolean[n][n];
        comes = new boolean[n][n];
        for (int f = 0; f < n; f++) {
            List<Node> found = new ArrayList<>();
            source.get(f).body.calls(found);
            for (Node c : found) {
                direct[f][c.value] = true;
            }
        }
        for (int f = 0; f < n; f++) {
            spread(f, f);
        }
        order = new ArrayList<>();
        boolean[] looked = new boolean[n];
        for (int f = 0; f < n; f++) {
            look(f, looked);
        }
        encode(source, false);
        trim(0);
        return n;
    }

    private void spread(int from, int at) {
        for (int g = 0; g < direct.length; g++) {
            if (direct[at][g] && !comes[from][g]) {
                comes[from][g] = true;
                spread(from, g);
            }
        }
    }

    private void look(int f, boolean[] looked) {
        if (looked[f]) {
            return;
        }
        looked[f] = true;
        List<Node> found = new ArrayList<>();
        source.get(f).body.calls(found);
        for (Node c : found) {
            look(c.value, looked);
        }
        order.add(f);
    }

    // ---- the text

    private static final class Parser {
        private final String text;
        private int at = 0;
        private String token;
        private int place;
        private final List<Function> functions = new ArrayList<>();
        private final List<Node> callsInText = new ArrayList<>();
        private List<String> names;
        private List<Integer> numbers;
        private Function current;
        private int lets;
        private int open;

        Parser(String text) {
            this.text = text;
        }

        /** "" at the text's end. */
        private String peek() {
            if (token != null) {
                return token;
            }
            while (at < text.length() && "\t\n\r ".indexOf(text.charAt(at)) >= 0) {
                at++;
            }
            place = at;
            if (at == text.length()) {
                return token = "";
            }
            int end = at;
            char c = text.charAt(at);
            if (c >= 'a' && c <= 'z') {
                while (end < text.length() && text.substring(end, end + 1).matches("[a-z0-9]")) {
                    end++;
                }
                if (end - at > 8) {
                    throw new Fault(1, at);
                }
            } else if (c >= '0' && c <= '9') {
                while (end < text.length() && text.substring(end, end + 1).matches("[0-9]")) {
                    end++;
                }
                if (end - at > 10 || Long.parseLong(text.substring(at, end)) > Integer.MAX_VALUE) {
                    throw new Fault(1, at);
                }
            } else if (text.startsWith("==", at)) {
                end += 2;
            } else if ("(),;=+-*/%<.".indexOf(c) >= 0) {
                end += 1;
            } else {
                throw new Fault(1, at);
            }
            token = text.substring(at, end);
            at = end;
            return token;
        }

        private boolean isName() {
            return peek().matches("[a-z][a-z0-9]*") && !peek().matches("def|let|in|if|then|else|put");
        }

        private String take() {
            String taken = peek();
            token = null;
            return taken;
        }

        private void need(String wanted) {
            if (!peek().equals(wanted)) {
                throw new Fault(2, place);
            }
            take();
        }

        List<Function> text() {
            while (!peek().isEmpty()) {
                definition();
            }
            for (Node c : callsInText) {
                c.value = indexOf(c.called);
                if (c.value < 0) {
                    throw new Fault(6, c.place);
                }
                if (functions.get(c.value).parameters != c.kids.size()) {
                    throw new Fault(7, c.place);
                }
            }
            return functions;
        }

        private int indexOf(String name) {
            for (int i = 0; i < functions.size(); i++) {
                if (functions.get(i).name.equals(name)) {
                    return i;
                }
            }
            return -1;
        }

        private void definition() {
            need("def");
            if (!isName()) {
                throw new Fault(2, place);
            }
            if (indexOf(peek()) >= 0) {
                throw new Fault(3, place);
            }
            if (functions.size() == 24) {
                throw new Fault(5, place);
            }
            current = new Function();
            current.name = take();
            functions.add(current);
            names = new ArrayList<>();
            numbers = new ArrayList<>();
            need("(");
            if (!peek().equals(")")) {
                parameter();
                while (peek().equals(",")) {
                    take();
                    parameter();
                }
            }
            need(")");
            need("=");
            current.parameters = names.size();
            current.variables = names.size();
            lets = 0;
            open = 0;
            current.body = exp();
            if (!peek().equals(".")) {
                throw new Fault(2, place);
            }
            if (current.body.size() > 400) {
                throw new Fault(5, place);
            }
            take();
        }

        private void parameter() {
            if (!isName()) {
                throw new Fault(2, place);
            }
            if (names.contains(peek())) {
                throw new Fault(3, place);
            }
            if (names.size() == 6) {
                throw new Fault(5, place);
            }
            numbers.add(names.size());
            names.add(take());
        }

        private void opens() {
            if (open == 30) {
                throw new Fault(5, place);
            }
            open++;
        }

        private Node exp() {
            if (peek().equals("let")) {
                return let();
            }
            if (peek().equals("if")) {
                opens();
                take();
                Node a = exp();
                need("then");
                Node b = exp();
                need("else");
                Node c = exp();
                open--;
                return new Node(13, 0, a, b, c);
            }
            Node a = same();
            if (peek().equals(";")) {
                take();
                return new Node(12, 0, a, exp());
            }
            return a;
        }

        private Node let() {
            opens();
            take();
            if (!isName()) {
                throw new Fault(2, place);
            }
            if (lets == 40) {
                throw new Fault(5, place);
            }
            lets++;
            String name = take();
            int variable = current.variables++;
            need("=");
            Node a = exp();
            need("in");
            names.add(name);
            numbers.add(variable);
            Node b = exp();
            names.remove(names.size() - 1);
            numbers.remove(numbers.size() - 1);
            open--;
            return new Node(14, variable, a, b);
        }

        private Node same() {
            Node a = sum();
            if (peek().equals("<") || peek().equals("==")) {
                int kind = take().equals("<") ? 8 : 9;
                return new Node(kind, 0, a, sum());
            }
            return a;
        }

        private Node sum() {
            Node a = product();
            while (peek().equals("+") || peek().equals("-")) {
                int kind = take().equals("+") ? 3 : 4;
                a = new Node(kind, 0, a, product());
            }
            return a;
        }

        private Node product() {
            Node a = unary();
            while (peek().matches("[*/%]")) {
                int kind = 5 + "*/%".indexOf(take());
                a = new Node(kind, 0, a, unary());
            }
            return a;
        }

        private Node unary() {
            if (peek().equals("-")) {
                opens();
                take();
                Node a = unary();
                open--;
                return new Node(10, 0, a);
            }
            return part();
        }

        private Node part() {
            if (peek().matches("[0-9]+")) {
                return new Node(1, Integer.parseInt(take()));
            }
            if (peek().equals("put")) {
                take();
                return new Node(11, 0, bracketed());
            }
            if (!isName()) {
                return bracketed();
            }
            int where = place;
            String name = take();
            if (peek().equals("(")) {
                return call(name, where);
            }
            int i = names.lastIndexOf(name);
            if (i < 0) {
                throw new Fault(4, where);
            }
            return new Node(2, numbers.get(i));
        }

        private Node bracketed() {
            if (!peek().equals("(")) {
                throw new Fault(2, place);
            }
            opens();
            take();
            Node a = exp();
            need(")");
            open--;
            return a;
        }

        private Node call(String name, int where) {
            opens();
            take();
            Node c = new Node(15, 0);
            c.called = name;
            c.place = where;
            callsInText.add(c);
            if (!peek().equals(")")) {
                c.kids.add(exp());
                while (peek().equals(",")) {
                    take();
                    c.kids.add(exp());
                }
            }
            need(")");
            open--;
            return c;
        }
    }

    // ---- the output

    int trim(int mode) {
        output = new ArrayList<>();
        for (Function f : source) {
            Function copy = new Function();
            copy.name = f.name;
            copy.parameters = f.parameters;
            copy.variables = f.variables;
            copy.body = shifted(f.body, 0);
            output.add(copy);
        }
        replacedInAll = 0;
        if ((mode & 1) != 0) {
            for (int f : order) {
                inline(output.get(f));
            }
        }
        if ((mode & 2) != 0) {
            for (Function f : output) {
                f.body = fold(f.body, new HashMap<>());
            }
        }
        encode(output, (mode & 4) != 0);
        return replacedInAll;
    }

    private static Node shifted(Node a, int by) {
        Node copy = new Node(a.kind, a.kind == 2 || a.kind == 14 ? a.value + by : a.value);
        for (Node k : a.kids) {
            copy.kids.add(shifted(k, by));
        }
        return copy;
    }

    private void inline(Function f) {
        List<Node> found = new ArrayList<>();
        f.body.calls(found);
        for (Node c : found) {
            Function g = output.get(c.value);
            if (comes[c.value][c.value] || g.body.size() > budget
                || f.body.size() - 1 + g.parameters + g.body.size() > 500 || f.variables + g.variables > 120) {
                continue;
            }
            Node made = shifted(g.body, f.variables);
            for (int i = g.parameters - 1; i >= 0; i--) {
                made = new Node(14, f.variables + i, c.kids.get(i), made);
            }
            f.variables += g.variables;
            f.replaced++;
            replacedInAll++;
            f.body = exchanged(f.body, c, made);
        }
    }

    private static Node exchanged(Node in, Node old, Node made) {
        if (in == old) {
            return made;
        }
        in.kids.replaceAll(k -> exchanged(k, old, made));
        return in;
    }

    static int apply(int kind, int a, int b) {
        switch (kind) {
            case 3: return a + b;
            case 4: return a - b;
            case 5: return a * b;
            case 6: return (int) ((long) a / b);
            case 7: return (int) ((long) a % b);
            case 8: return a < b ? 1 : 0;
            case 9: return a == b ? 1 : 0;
            default: throw new IllegalStateException();
        }
    }

    private static Node fold(Node a, Map<Integer, Integer> known) {
        switch (a.kind) {
            case 1: return a;
            case 2: return known.containsKey(a.value) ? new Node(1, known.get(a.value)) : a;
            case 13: {
                Node c = fold(a.kids.get(0), known);
                if (c.kind == 1) {
                    return fold(a.kids.get(c.value != 0 ? 1 : 2), known);
                }
                return new Node(13, 0, c, fold(a.kids.get(1), known), fold(a.kids.get(2), known));
            }
            case 12: {
                Node first = fold(a.kids.get(0), known);
                Node second = fold(a.kids.get(1), known);
                return first.calm() ? second : new Node(12, 0, first, second);
            }
            case 14: {
                Node first = fold(a.kids.get(0), known);
                if (first.kind == 1) {
                    Map<Integer, Integer> more = new HashMap<>(known);
                    more.put(a.value, first.value);
                    return fold(a.kids.get(1), more);
                }
                Node second = fold(a.kids.get(1), known);
                return first.calm() && !second.has(a.value) ? second : new Node(14, a.value, first, second);
            }
            default: {
                Node made = new Node(a.kind, a.value);
                boolean numbers = true;
                for (Node k : a.kids) {
                    Node b = fold(k, known);
                    made.kids.add(b);
                    numbers &= b.kind == 1;
                }
                if (a.kind == 10 && numbers) {
                    return new Node(1, -made.kids.get(0).value);
                }
                if (a.kind >= 3 && a.kind <= 9 && numbers) {
                    int y = made.kids.get(1).value;
                    if (y != 0 || a.kind != 6 && a.kind != 7) {
                        return new Node(1, apply(a.kind, made.kids.get(0).value, y));
                    }
                }
                return made;
            }
        }
    }

    // ---- writing

    String written(List<Function> all, Node a) {
        List<String> k = new ArrayList<>();
        for (Node b : a.kids) {
            k.add(written(all, b));
        }
        switch (a.kind) {
            case 1: return a.value < 0 ? "(" + a.value + ")" : "" + a.value;
            case 2: return "v" + a.value;
            case 9: return "(" + k.get(0) + "==" + k.get(1) + ")";
            case 10: return "(-" + k.get(0) + ")";
            case 11: return "put(" + k.get(0) + ")";
            case 12: return "(" + k.get(0) + ";" + k.get(1) + ")";
            case 13: return "(if " + k.get(0) + " then " + k.get(1) + " else " + k.get(2) + ")";
            case 14: return "(let v" + a.value + "=" + k.get(0) + " in " + k.get(1) + ")";
            case 15: return all.get(a.value).name + "(" + String.join(",", k) + ")";
            default: return "(" + k.get(0) + "+-*/%<".charAt(a.kind - 3) + k.get(1) + ")";
        }
    }

    // ---- code

    private static void encode(List<Function> all, boolean tails) {
        for (int i = 0; i < all.size(); i++) {
            Function f = all.get(i);
            f.code = new ArrayList<>();
            f.slots = f.parameters;
            Map<Integer, Integer> slot = new HashMap<>();
            for (int p = 0; p < f.parameters; p++) {
                slot.put(p, p);
            }
            encode(all, i, f.body, slot, true, tails);
            f.temps = 0;
            Map<Integer, Integer> heightAt = new HashMap<>();
            lay(all, f, 0, 0, heightAt);
        }
        bounds(all);
    }

    private static void encode(List<Function> all, int self, Node a, Map<Integer, Integer> slot, boolean end,
        boolean tails) {
        Function f = all.get(self);
        List<int[]> code = f.code;
        switch (a.kind) {
            case 12:
                encode(all, self, a.kids.get(0), slot, false, tails);
                code.add(new int[] {12, 0});
                encode(all, self, a.kids.get(1), slot, end, tails);
                return;
            case 13: {
                encode(all, self, a.kids.get(0), slot, false, tails);
                int[] otherwise = {14, 0};
                code.add(otherwise);
                encode(all, self, a.kids.get(1), slot, end, tails);
                int[] jump = {15, 0};
                if (!end) {
                    code.add(jump);
                }
                otherwise[1] = code.size();
                encode(all, self, a.kids.get(2), slot, end, tails);
                jump[1] = code.size();
                return;
            }
            case 14: {
                encode(all, self, a.kids.get(0), slot, false, tails);
                int at = slot.size();
                code.add(new int[] {13, at});
                f.slots = Math.max(f.slots, at + 1);
                slot.put(a.value, at);
                encode(all, self, a.kids.get(1), slot, end, tails);
                slot.remove(a.value);
                return;
            }
            default:
        }
        for (Node k : a.kids) {
            encode(all, self, k, slot, false, tails);
        }
        if (a.kind == 15 && end && tails) {
            code.add(a.value == self ? new int[] {18, 0} : new int[] {19, a.value});
            return;
        }
        if (a.kind == 2) {
            f.slots = Math.max(f.slots, slot.get(a.value) + 1);
        }
        code.add(a.kind == 15 ? new int[] {16, a.value}
            : new int[] {a.kind, a.kind == 1 ? a.value : a.kind == 2 ? slot.get(a.value) : 0});
        if (end) {
            code.add(new int[] {17, 0});
        }
    }

    /** Goes through the code itself, by every way, and keeps the greatest height. */
    private static void lay(List<Function> all, Function f, int from, int height, Map<Integer, Integer> seen) {
        int h = height;
        for (int at = from; at < f.code.size(); at++) {
            if (seen.containsKey(at)) {
                if (seen.get(at) != h) {
                    throw new IllegalStateException("heights differ");
                }
                return;
            }
            seen.put(at, h);
            int[] i = f.code.get(at);
            switch (i[0]) {
                case 1: case 2: h++; break;
                case 10: case 11: break;
                case 14:
                    h--;
                    lay(all, f, i[1], h, seen);
                    break;
                case 15: lay(all, f, i[1], h, seen); return;
                case 16: h += 1 - all.get(i[1]).parameters; break;
                case 17: case 18: case 19: return;
                default: h--;
            }
            f.temps = Math.max(f.temps, h);
        }
    }

    private static void bounds(List<Function> all) {
        int greatest = 0;
        for (Function f : all) {
            f.bound = f.frame();
            greatest += f.frame();
        }
        // A bound that can grow at all grows past all frames together: then it has none.
        for (int round = 0; round < 3000; round++) {
            for (Function f : all) {
                for (int[] i : f.code) {
                    if (i[0] == 16) {
                        f.bound = Math.min(1000000, Math.max(f.bound, f.frame() + all.get(i[1]).bound));
                    } else if (i[0] == 19) {
                        f.bound = Math.max(f.bound, all.get(i[1]).bound);
                    }
                }
            }
            if (round > 100 && all.size() < 6) {
                break;
            }
            if (round > 700) {
                break;
            }
        }
        for (Function f : all) {
            if (f.bound > greatest) {
                f.bound = -1;
            }
        }
    }

    // ---- runs

    int halt;
    int value;
    int steps;
    int most;
    List<Integer> puts = new ArrayList<>();

    private static final class Frame {
        final Function of;
        final int[] slot;
        final List<Integer> laid = new ArrayList<>();
        int at = 0;

        Frame(Function of, List<Integer> arguments) {
            this.of = of;
            slot = new int[of.slots];
            for (int i = 0; i < of.parameters; i++) {
                slot[i] = arguments.get(i);
            }
        }

        int pop() {
            return laid.remove(laid.size() - 1);
        }

        List<Integer> pop(int n) {
            List<Integer> taken = new ArrayList<>(laid.subList(laid.size() - n, laid.size()));
            for (int i = 0; i < n; i++) {
                pop();
            }
            return taken;
        }
    }

    void run(List<Function> all, int f, int[] arguments, int words, int stepLimit) {
        value = 0;
        steps = 0;
        most = 0;
        puts = new ArrayList<>();
        halt = 0;
        List<Integer> given = new ArrayList<>();
        for (int i = 0; i < 6; i++) {
            given.add(arguments[i]);
        }
        List<Frame> frames = new ArrayList<>();
        if (all.get(f).frame() > words) {
            halt = 2;
            return;
        }
        frames.add(new Frame(all.get(f), given));
        int sum = all.get(f).frame();
        most = sum;
        while (true) {
            if (steps == stepLimit) {
                halt = 4;
                return;
            }
            steps++;
            Frame top = frames.get(frames.size() - 1);
            int[] i = top.of.code.get(top.at++);
            switch (i[0]) {
                case 1: top.laid.add(i[1]); break;
                case 2: top.laid.add(top.slot[i[1]]); break;
                case 10: top.laid.add(-top.pop()); break;
                case 11:
                    if (puts.size() == 200) {
                        halt = 5;
                        return;
                    }
                    puts.add(top.laid.get(top.laid.size() - 1));
                    break;
                case 12: top.pop(); break;
                case 13: top.slot[i[1]] = top.pop(); break;
                case 14: if (top.pop() == 0) {
                        top.at = i[1];
                    }
                    break;
                case 15: top.at = i[1]; break;
                case 16: case 18: case 19: {
                    Function g = i[0] == 18 ? top.of : all.get(i[1]);
                    if (i[0] != 16) {
                        sum -= top.of.frame();
                    }
                    if (sum + g.frame() > words) {
                        halt = 2;
                        return;
                    }
                    sum += g.frame();
                    Frame made = new Frame(g, top.pop(g.parameters));
                    if (!top.laid.isEmpty() && i[0] != 16) {
                        throw new IllegalStateException("values are left");
                    }
                    if (i[0] != 16) {
                        frames.remove(frames.size() - 1);
                    }
                    frames.add(made);
                    most = Math.max(most, sum);
                    break;
                }
                case 17: {
                    int back = top.pop();
                    sum -= top.of.frame();
                    frames.remove(frames.size() - 1);
                    if (frames.isEmpty()) {
                        halt = 1;
                        value = back;
                        return;
                    }
                    frames.get(frames.size() - 1).laid.add(back);
                    break;
                }
                default: {
                    int b = top.pop();
                    int a = top.pop();
                    if (b == 0 && (i[0] == 6 || i[0] == 7)) {
                        halt = 3;
                        return;
                    }
                    top.laid.add(apply(i[0], a, b));
                }
            }
            if (top.laid.size() > top.of.temps) {
                throw new IllegalStateException("more laid than TEMPS");
            }
        }
    }
}
