/** Promise 3: nothing may lie more than 60 deep; the fault is at the first token of what lies 61 deep. */
public final class Promise03DepthTest {
    public static void main(String[] args) {
        // what stands before and behind, what opens and closes a level, and how many levels fit
        around("wire w=", "(", "a", ")", ";", 59);
        around("wire w=", "-", "a", "", ";", 59);
        around("wire w=", "~", "a", "", ";", 59);
        around("wire w=", "!", "a", "", ";", 59);
        around("wire w=", "{", "a", "}", ";", 59);
        around("wire w=", "{b,", "a", ",c}", ";", 59);
        around("wire w=", "f(", "a", ")", ";", 59);
        around("wire w=", "f(b,", "a", ")", ";", 59);
        around("wire w=", "f[1](", "a", ")", ";", 59);
        around("wire w=", "f[1,2](", "a", ")", ";", 59);
        around("wire w=", "zext(1,", "a", ")", ";", 59);
        around("wire w=", "sext(1,", "a", ")", ";", 59);
        around("wire w=", "any(", "a", ")", ";", 59);
        around("wire w=", "all(", "a", ")", ";", 59);
        around("wire w=", "odd(", "a", ")", ";", 59);
        around("wire w=", "a?b:", "a", "", ";", 59);
        around("wire w=", "a?", "a", ":b", ";", 59);
        around("wire w=", "(", "a", ")?b:c", ";", 59);
        around("wire w=", "b+(", "a", ")", ";", 59);
        around("wire w=", "b|c^d&e==f<g<<h+i*(", "a", ")", ";", 59);
        around("out o:L=", "(", "a", ")", ";", 59);
        around("fun f(a[1])[1]=", "(", "a", ")", ";", 59);
        around("const c=", "(", "1", ")", ";", 59);
        around("const c=", "1+2*(", "1", ")", ";", 59);
        around("mode m[", "(", "1", ")", "]=0;", 59);
        around("mode m[1]=", "(", "1", ")", ";", 59);
        around("fun f(a[", "(", "1", ")", "])[1]=a;", 59);
        around("fun f(a[1])[", "(", "1", ")", "]=a;", 59);
        around("in a[", "(", "1", ")", "]:L;", 59);
        around("reg r[", "(", "1", ")", "]=0:L;", 59);
        around("reg r[1]=", "(", "1", ")", ":L;", 59);
        around("reg r[1]=0:", "if(m==0)L else ", "L", "", ";", 59);
        around("out o:", "if(m==0)", "L", " else L", "=a;", 59);
        around("in a[1]:", "if(m==0)L else ", "L", "", ";", 59);
        around("in a[1]:", "if(m==0)", "L", " else L", ";", 59);
        around("in a[1]:if(m==", "(", "1", ")", ")L else L;", 58);
        around("wire w=a[", "(", "1", ")", "];", 58);
        around("wire w=a[1:", "(", "1", ")", "];", 58);
        around("wire w=f[", "(", "1", ")", "](a);", 58);
        around("wire w=f[1,", "(", "1", ")", "](a);", 58);
        around("wire w=num(", "(", "1", ")", ",1);", 58);
        around("wire w=num(1,", "(", "1", ")", ");", 58);
        around("wire w=zext(", "(", "1", ")", ",a);", 58);
        around("wire w=-", "(", "a", ")", ";", 58);
        around("next{a<=", "(", "a", ")", ";}", 58);
        around("next{if(", "(", "a", ")", "){}}", 58);
        around("next{case(", "(", "a", ")", "){0:{}}}", 58);
        around("next{case(a){", "(", "1", ")", ":{}}}", 58);
        around("next{", "if(a){", "", "}", "}", 59);
        around("next{", "if(a){}else{", "", "}", "}", 59);
        around("next{", "case(a){0:{", "", "}}", "}", 59);
        around("next{", "case(a){0:{}default:{", "", "}}", "}", 59);
        around("next{", "if(a){", "a<=b;", "}", "}", 58);
        around("next{", "if(a){", "case(b){0:{}}", "}", "}", 58);
        whatIsWrongAnyway();
        mixed();
        Check.end();
    }

    /** One less than fit, and as many as fit, are read; with one more, the fault is at the first token 61 deep. */
    private static void around(String before, String open, String inside, String close, String behind, int most) {
        String name = before + open + ".." + inside + close + behind;
        Subject reader = new Subject();
        Check.due("59 deep: " + name,
            Check.read(reader, 0, before + open.repeat(most - 1) + inside + close.repeat(most - 1) + behind), -1);
        Check.due("60 deep: " + name, Check.read(reader, 0, before + open.repeat(most) + inside + close.repeat(most) + behind), -1);
        Check.due("nodes of " + name, reader.nodes(0) > 1, true);
        reader.write(0, 0);
        reader.again();
        Check.due("again " + name, reader.read(1, -1), -1);
        Check.due("same " + name, reader.same(), true);
        String start = before + open.repeat(most + 1);
        Check.due("61 deep: " + name, Check.read(reader, 0, start + inside + close.repeat(most + 1) + behind),
            placeOfDepth(before, open, inside, most, start));
        Check.due("no item is left of " + name, reader.nodes(0), 1);
    }

    /** Where an opening itself has something 61 deep before its end, the fault lies there. */
    private static int placeOfDepth(String before, String open, String inside, int most, String start) {
        int lastOpen = before.length() + open.length() * most;
        switch (open) {
            case "f(b,": return lastOpen + 2;
            case "{b,": return lastOpen + 1;
            case "f[1](": return lastOpen + 2;
            case "f[1,2](": return lastOpen + 2;
            case "zext(1,": return lastOpen + 5;
            case "sext(1,": return lastOpen + 5;
            case "a?b:": return lastOpen + 2;
            case "if(m==0)L else ": return lastOpen + 6;
            case "if(m==0)": return lastOpen + 6;
            case "if(a){": return inside.isEmpty() ? lastOpen + 3 : start.length() + (inside.startsWith("a") ? 3 : 5);
            case "if(a){}else{": return lastOpen + 3;
            case "case(a){0:{": return lastOpen + 5;
            case "case(a){0:{}default:{": return lastOpen + 5;
            default: return start.length();
        }
    }

    private static void whatIsWrongAnyway() {
        String sixty = "wire w=" + "(".repeat(60);
        Check.due("the end", Check.read(new Subject(), 0, sixty), 67);
        Check.due("blanks and the end", Check.read(new Subject(), 0, sixty + "  "), 69);
        Check.due("no token", Check.read(new Subject(), 0, sixty + " @"), 68);
        Check.due("a token that does not go on", Check.read(new Subject(), 0, sixty + " )"), 68);
        Check.due("one that does", Check.read(new Subject(), 0, sixty + " a"), 68);
        Check.due("an earlier fault", Check.read(new Subject(), 0, "wire w=(1" + "(".repeat(70)), 8);
        Check.due("a thousand", Check.read(new Subject(), 0, "wire w=" + "(".repeat(7000)), 67);
        Check.due("a thousand signs", Check.read(new Subject(), 0, "wire w=" + "-".repeat(7000)), 67);
        Check.due("a thousand sums", Check.read(new Subject(), 0, "const c=" + "(".repeat(7000)), 68);
    }

    private static void mixed() {
        // BLOCKs, then an EXPR, UNARYs behind a sign, brackets and a SUM: all count alike
        String before = "next{" + "if(a){".repeat(19) + "a<=" + "-".repeat(20) + "(".repeat(18) + "b[";
        String behind = "]" + ")".repeat(18) + ";" + "}".repeat(19) + "}";
        Check.due("60 deep", Check.read(new Subject(), 0, before + "1" + behind), -1);
        Check.due("61 deep", Check.read(new Subject(), 0, before + "(1)" + behind), before.length() + 1);
    }
}
