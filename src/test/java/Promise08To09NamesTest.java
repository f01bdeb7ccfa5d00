/** Promises 8 and 9: names and spelt: which names count, in which order, and how they are spelt. */
public final class Promise08To09NamesTest {
    public static void main(String[] args) {
        order();
        faults();
        otherTextsAndTrees();
        noSuch();
        many();
        Check.end();
    }

    private static void order() {
        Subject reader = Check.reader("fun f[P](a[Q],b[P])[R]=g[S](h,a)?i[T]:{j,k[U:V]};");
        Check.due("names", Check.allNames(reader), "f P a Q b R g S h i T j k U V ");
        reader = Check.reader("in a[b]:if(c==d)E|F else G;out o:L=m;next{p<=q;case(r){s:{t<=u;}default:{}}}");
        Check.due("names", Check.allNames(reader), "a b c d E F G o L m p q r s t u ");
        reader = Check.reader("level a;level A;level aa;level _a;level a_;level a1;level a;level aa;");
        Check.due("names", Check.allNames(reader), "a A aa _a a_ a1 ");
        Check.due("the same name has the same number", reader.node(0, 16, 2), 2);
    }

    private static void faults() {
        Subject first = new Subject();
        Check.due("read", Check.read(first, 0, "wire a=b"), 8);
        Check.due("no name at all", first.names(), 0);
        Check.due("read", Check.read(first, 0, "wire b=a;"), -1);
        Check.due("names", Check.allNames(first), "b a ");
        Subject reader = new Subject();
        Check.due("read", Check.read(reader, 0, "level A;wire b=A+c d;level E;"), 19);
        Check.due("the item with the fault does not count", Check.allNames(reader), "A ");
        Check.due("read", Check.read(reader, 0, "wire b"), 6);
        Check.due("none is new", reader.names(), 1);
        Check.due("spelt of one that was forgotten", reader.spelt(1, 0), -1);
        Check.due("read", Check.read(reader, 1, "wire c=A;wire b=c;F"), 18);
        Check.due("numbers go on from those that count", Check.allNames(reader), "A c b ");
        Check.due("value of c", reader.node(1, 2, 2), 1);
        Check.due("read", Check.read(reader, 1, "wire b=A;wire x=y;wire b=x+y+z+1;"), 31);
        Check.due("names of the items before count", Check.allNames(reader), "A c b x y ");
        Check.due("read", Check.read(reader, 1, "wire z=zz;wire x1=q@;"), 19);
        Check.due("read", Check.read(reader, 1, "wire q=x1;"), -1);
        Check.due("names", Check.allNames(reader), "A c b x y z zz q x1 ");
        Check.due("a name at which the fault lies", Check.read(reader, 1, "fault"), 0);
        Check.due("names", reader.names(), 9);
    }

    private static void otherTextsAndTrees() {
        Subject reader = Check.reader("wire a=b;");
        Check.due("read", Check.read(reader, 1, "wire b=c;"), -1);
        Check.due("names", Check.allNames(reader), "a b c ");
        Check.due("b in tree 1", reader.node(1, 2, 2), 1);
        Check.due("read", reader.read(0, -1), -1);
        Check.due("they stay when the trees go", Check.allNames(reader), "a b c ");
    }

    private static void noSuch() {
        Subject reader = Check.reader("level abc;level d;");
        Check.due("spelt(0, 2)", reader.spelt(0, 2), 'c');
        Check.due("spelt(0, 3)", reader.spelt(0, 3), -1);
        Check.due("spelt(1, 0)", reader.spelt(1, 0), 'd');
        Check.due("spelt(1, 1)", reader.spelt(1, 1), -1);
        int[] none = {-1, -2, 2, 3, 5120, 10240, Integer.MIN_VALUE, Integer.MAX_VALUE};
        for (int name : none) {
            Check.due("spelt(" + name + ", 0)", reader.spelt(name, 0), -1);
        }
        int[] noBytes = {-1, -2, 3, 30, 10240, Integer.MIN_VALUE, Integer.MAX_VALUE};
        for (int i : noBytes) {
            Check.due("spelt(0, " + i + ")", reader.spelt(0, i), -1);
        }
    }

    /** More names than fit into one text, the shortest ones that there are. */
    private static void many() {
        String first = "ABCDEFGHIJKLMNOPQRSTUVWXYZabcdefghijklmnopqrstuvwxyz_";
        String later = "0123456789" + first;
        StringBuilder all = new StringBuilder();
        StringBuilder want = new StringBuilder();
        Subject reader = new Subject();
        int made = 0;
        for (int round = 0; round < 2; round++) {
            all.setLength(0);
            all.append("level X1");
            char next = '>';
            while (all.length() < (round == 0 ? 7990 : 1800)) {
                String name = made < 53 ? first.substring(made, made + 1)
                    : "" + first.charAt((made - 53) / 63) + later.charAt((made - 53) % 63);
                made++;
                if (!name.equals("X1") && !name.equals("if") && !name.equals("in")) {
                    all.append(next).append(name);
                    next = ',';
                    want.append(name).append(' ');
                }
            }
            Check.due("read of many", Check.read(reader, 0, all.append(';').toString()), -1);
            int names = reader.names();
            reader.write(0, 0);
            reader.again();
            Check.due("read of many again", reader.read(1, -1), -1);
            Check.due("none of them is new", reader.names(), names);
            Check.due("they have the same numbers", reader.same(), true);
        }
        Check.due("many names", Check.allNames(reader), "X1 " + want);
        Check.due("how many", reader.names() > 3200, true);
    }
}
